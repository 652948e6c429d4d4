theorem dX1_forget_0 : decode cX1_forget 0 = .ok (.aload_n 0, 1) := by decide +kernel
theorem dX1_forget_1 : decode cX1_forget 1 = .ok (.iconst 0, 1) := by decide +kernel
theorem dX1_forget_2 : decode cX1_forget 2 = .ok (.putfield 24, 3) := by decide +kernel
theorem dX1_forget_5 : decode cX1_forget 5 = .ok (.return_, 1) := by decide +kernel
set_option maxHeartbeats 4000000 in
set_option maxRecDepth 10000 in
theorem vX1_forget_0 {l : Launch} {M : sl_M} {Q : sl_R} (H : sl_RM M → (∀ M1, M1 = sl_wr M 6 0 1 0 → Q none M1)) : sl_At l mX1_forget 0 [(0, vR 6 0)] [] M Q := by
  refine sl_At.in (fun hM hls => ?_)
  have H := H hM
  refine r_aload_n (k := 0) rfl rfl dX1_forget_0 ?_
  refine r_iconst dX1_forget_1 ?_
  refine r_pZ (k := 1) (kz := 1) rfl ckX1 rfl rfl (by decide) rfl rfl rfl rfl fl_X1_24 (Or.inl rfl) dX1_forget_2 ?_
  refine r_mm (fun M1 e1 => ?_)
  have H := H M1 e1
  have hM1 : sl_RM M1 := by rw [e1]; exact sl_wr_RM hM (sl_rg01 (Or.inl rfl))
  refine r_vret rfl dX1_forget_5 ?_
  exact H
theorem eX1_forget {l : Launch} {M : sl_M} {Q : sl_R}  (k : sl_At l mX1_forget 0 [(0, vR 6 0)] [] M Q) : sl_Runs l mX1_forget [vR 6 0] M Q := sl_Runs.of (ls := [(0, vR 6 0)]) rfl rfl (fun _ => rfl) (fun _ => Nat.le_of_ble_eq_true rfl) rfl (k)
theorem dX1_study_0 : decode cX1_study 0 = .ok (.aload_n 0, 1) := by decide +kernel
theorem dX1_study_1 : decode cX1_study 1 = .ok (.getfield 24, 3) := by decide +kernel
theorem dX1_study_4 : decode cX1_study 4 = .ok (.ifCond .eq 4, 3) := by decide +kernel
theorem dX1_study_7 : decode cX1_study 7 = .ok (.return_, 1) := by decide +kernel
theorem dX1_study_8 : decode cX1_study 8 = .ok (.aload_n 0, 1) := by decide +kernel
theorem dX1_study_9 : decode cX1_study 9 = .ok (.iconst 1, 1) := by decide +kernel
theorem dX1_study_10 : decode cX1_study 10 = .ok (.putfield 24, 3) := by decide +kernel
theorem dX1_study_13 : decode cX1_study 13 = .ok (.aload_n 0, 1) := by decide +kernel
theorem dX1_study_14 : decode cX1_study 14 = .ok (.aload_n 1, 1) := by decide +kernel
theorem dX1_study_15 : decode cX1_study 15 = .ok (.putfield 28, 3) := by decide +kernel
theorem dX1_study_18 : decode cX1_study 18 = .ok (.aload_n 0, 1) := by decide +kernel
theorem dX1_study_19 : decode cX1_study 19 = .ok (.getfield 28, 3) := by decide +kernel
theorem dX1_study_22 : decode cX1_study 22 = .ok (.getfield 32, 3) := by decide +kernel
theorem dX1_study_25 : decode cX1_study 25 = .ok (.getfield 38, 3) := by decide +kernel
theorem dX1_study_28 : decode cX1_study 28 = .ok (.iconst 1, 1) := by decide +kernel
theorem dX1_study_29 : decode cX1_study 29 = .ok (.isub, 1) := by decide +kernel
theorem dX1_study_30 : decode cX1_study 30 = .ok (.istore_n 2, 1) := by decide +kernel
theorem dX1_study_31 : decode cX1_study 31 = .ok (.iload_n 2, 1) := by decide +kernel
theorem dX1_study_32 : decode cX1_study 32 = .ok (.ifCond .lt 24, 3) := by decide +kernel
theorem dX1_study_35 : decode cX1_study 35 = .ok (.aload_n 0, 1) := by decide +kernel
theorem dX1_study_36 : decode cX1_study 36 = .ok (.iconst 0, 1) := by decide +kernel
theorem dX1_study_37 : decode cX1_study 37 = .ok (.iload_n 2, 1) := by decide +kernel
theorem dX1_study_38 : decode cX1_study 38 = .ok (.aload_n 0, 1) := by decide +kernel
theorem dX1_study_39 : decode cX1_study 39 = .ok (.getfield 9, 3) := by decide +kernel
theorem dX1_study_42 : decode cX1_study 42 = .ok (.invokevirtual 44, 3) := by decide +kernel
theorem dX1_study_45 : decode cX1_study 45 = .ok (.aload_n 0, 1) := by decide +kernel
theorem dX1_study_46 : decode cX1_study 46 = .ok (.iconst 0, 1) := by decide +kernel
theorem dX1_study_47 : decode cX1_study 47 = .ok (.iload_n 2, 1) := by decide +kernel
theorem dX1_study_48 : decode cX1_study 48 = .ok (.iconst 3, 1) := by decide +kernel
theorem dX1_study_49 : decode cX1_study 49 = .ok (.aload_n 0, 1) := by decide +kernel
theorem dX1_study_50 : decode cX1_study 50 = .ok (.getfield 15, 3) := by decide +kernel
theorem dX1_study_53 : decode cX1_study 53 = .ok (.invokevirtual 48, 3) := by decide +kernel
theorem dX1_study_56 : decode cX1_study 56 = .ok (.return_, 1) := by decide +kernel
set_option maxHeartbeats 4000000 in
set_option maxRecDepth 10000 in
theorem vX1_study_0 {l : Launch} {M : sl_M} {Q : sl_R} {o1 : Nat} (ho1 : sl_cls o1 = 7) (H : sl_RM M → ((M 6 0 1 = 0) → (∀ M2, M2 = sl_wr M 6 0 1 1 → (o1 < 100) ∧ (∀ M4, M4 = sl_wr M2 6 0 0 ((o1 : Nat) + 1) → (∃ q5 : Nat, (M4 6 0 0 = (q5 : Int) + 1 ∧ sl_cls q5 = 7) ∧ (sl_rg (M4 (q5 + 10) 0 11 - 1)) ∧ (∀ y7 : Int, y7 = M4 (q5 + 10) 0 11 - 1 → ((y7 < 0) → Q none M4) ∧ ((¬ (y7 < 0)) → sl_RV l mX1_findLive [vR 6 0, vI 0, vI y7, vR 6 3] M4 (fun M9 => sl_RV l mX1_findSet [vR 6 0, vI 0, vI y7, vI 3, vR 6 4] M9 (fun M10 => Q none M10)))))))) ∧ ((¬ (M 6 0 1 = 0)) → Q none M)) : sl_At l mX1_study 0 [(0, vR 6 0), (1, vR o1 0)] [] M Q := by
  refine sl_At.in (fun hM hls => ?_)
  have H := H hM
  refine r_aload_n (k := 0) rfl rfl dX1_study_0 ?_
  refine r_gI (k := 1) (kz := 1) rfl ckX1 rfl rfl (by decide) rfl rfl fl_X1_24 dX1_study_1 ?_
  refine r_if_eq (tgt := 8) (hM _ _ _) dX1_study_4 (by decide) (fun h1 => ?_) (fun h1 => ?_)
  · have H := H.1 h1
    refine r_aload_n (k := 0) rfl rfl dX1_study_8 ?_
    refine r_iconst dX1_study_9 ?_
    refine r_pZ (k := 1) (kz := 1) rfl ckX1 rfl rfl (by decide) rfl rfl rfl rfl fl_X1_24 (Or.inr rfl) dX1_study_10 ?_
    refine r_mm (fun M2 e2 => ?_)
    have H := H M2 e2
    have hM2 : sl_RM M2 := by rw [e2]; exact sl_wr_RM hM (sl_rg01 (Or.inr rfl))
    refine r_aload_n (k := 0) rfl rfl dX1_study_13 ?_
    refine r_aload_n (k := 1) rfl rfl dX1_study_14 ?_
    obtain ⟨c3, H⟩ := H
    refine r_putS rfl rfl c3 fl_X1_28 dX1_study_15 ?_
    refine r_mm (fun M4 e4 => ?_)
    have H := H M4 e4
    have hM4 : sl_RM M4 := by rw [e4]; exact sl_wr_RM hM2 (sl_rg100 c3)
    refine r_aload_n (k := 0) rfl rfl dX1_study_18 ?_
    obtain ⟨q5, ⟨wq5, zq5⟩, H⟩ := H
    refine r_getS (hw := rfl) wq5 fl_X1_28 dX1_study_19 ?_
    refine r_getR (k := 0) (o' := q5 + 10) (i' := 0) ckX7 zq5 rfl (by decide) rfl rfl rfl fl_X1_32 dX1_study_22 ?_
    refine r_gI (k := 11) (kz := 11) rfl ckX0 (cl_prog zq5) rfl (by decide) rfl rfl fl_X1_38 dX1_study_25 ?_
    refine r_iconst dX1_study_28 ?_
    refine r_isub dX1_study_29 ?_
    obtain ⟨c6, H⟩ := H
    refine r_nm (fun y7 fy7 => ?_)
    have H := H y7 fy7
    have gy7 : sl_rg y7 := by rw [fy7]; exact c6
    refine r_istore_n (ls' := [(2, vI y7), (0, vR 6 0), (1, vR o1 0)]) gy7 rfl (by decide) rfl dX1_study_30 ?_
    refine r_iload_n (k := 0) rfl rfl dX1_study_31 ?_
    refine r_if_lt (tgt := 56) gy7 dX1_study_32 (by decide) (fun h8 => ?_) (fun h8 => ?_)
    · have H := H.1 h8
      refine r_vret rfl dX1_study_56 ?_
      exact H
    · have H := H.2 h8
      refine r_aload_n (k := 1) rfl rfl dX1_study_35 ?_
      refine r_iconst dX1_study_36 ?_
      refine r_iload_n (k := 0) rfl rfl dX1_study_37 ?_
      refine r_aload_n (k := 1) rfl rfl dX1_study_38 ?_
      refine r_getR (k := 2) (o' := 6) (i' := 3) ckX1 rfl rfl (by decide) rfl rfl rfl fl_X1_9 dX1_study_39 ?_
      refine r_callV (g := mX1_findLive) ckX1 rfl rfl rfl rfl mkX1_findLive mvX1_findLive ml_X1_44 ⟨by decide, by decide⟩ rfl (Nat.le_of_ble_eq_true rfl) rfl (ok_i ⟨by decide, by decide⟩ (ok_i gy7 (ok_r ok_n))) dX1_study_42 (sl_afterV (sl_RV.mono (fun M9 hM9 H => ?_) H))
      refine r_aload_n (k := 1) rfl rfl dX1_study_45 ?_
      refine r_iconst dX1_study_46 ?_
      refine r_iload_n (k := 0) rfl rfl dX1_study_47 ?_
      refine r_iconst dX1_study_48 ?_
      refine r_aload_n (k := 1) rfl rfl dX1_study_49 ?_
      refine r_getR (k := 3) (o' := 6) (i' := 4) ckX1 rfl rfl (by decide) rfl rfl rfl fl_X1_15 dX1_study_50 ?_
      refine r_callV (g := mX1_findSet) ckX1 rfl rfl rfl rfl mkX1_findSet mvX1_findSet ml_X1_48 ⟨by decide, by decide⟩ rfl (Nat.le_of_ble_eq_true rfl) rfl (ok_i ⟨by decide, by decide⟩ (ok_i gy7 (ok_i ⟨by decide, by decide⟩ (ok_r ok_n)))) dX1_study_53 (sl_afterV (sl_RV.mono (fun M10 hM10 H => ?_) H))
      refine r_vret rfl dX1_study_56 ?_
      exact H
  · have H := H.2 h1
    refine r_vret rfl dX1_study_7 ?_
    exact H
theorem eX1_study {l : Launch} {M : sl_M} {Q : sl_R} {o1 : Nat} (k : sl_At l mX1_study 0 [(0, vR 6 0), (1, vR o1 0)] [] M Q) : sl_Runs l mX1_study [vR 6 0, vR o1 0] M Q := sl_Runs.of (ls := [(0, vR 6 0), (1, vR o1 0)]) rfl rfl (fun _ => rfl) (fun _ => Nat.le_of_ble_eq_true rfl) rfl (k)
theorem dX1_program_0 : decode cX1_program 0 = .ok (.aload_n 0, 1) := by decide +kernel
theorem dX1_program_1 : decode cX1_program 1 = .ok (.getfield 28, 3) := by decide +kernel
theorem dX1_program_4 : decode cX1_program 4 = .ok (.getfield 32, 3) := by decide +kernel
theorem dX1_program_7 : decode cX1_program 7 = .ok (.areturn, 1) := by decide +kernel
set_option maxHeartbeats 4000000 in
set_option maxRecDepth 10000 in
theorem vX1_program_0 {l : Launch} {M : sl_M} {Q : sl_R} (H : sl_RM M → (∃ q1 : Nat, (M 6 0 0 = (q1 : Int) + 1 ∧ sl_cls q1 = 7) ∧ Q (some (vR (q1 + 10) 0)) M)) : sl_At l mX1_program 0 [(0, vR 6 0)] [] M Q := by
  refine sl_At.in (fun hM hls => ?_)
  have H := H hM
  refine r_aload_n (k := 0) rfl rfl dX1_program_0 ?_
  obtain ⟨q1, ⟨wq1, zq1⟩, H⟩ := H
  refine r_getS (hw := rfl) wq1 fl_X1_28 dX1_program_1 ?_
  refine r_getR (k := 0) (o' := q1 + 10) (i' := 0) ckX7 zq1 rfl (by decide) rfl rfl rfl fl_X1_32 dX1_program_4 ?_
  refine r_aret rfl dX1_program_7 ?_
  exact H
theorem eX1_program {l : Launch} {M : sl_M} {Q : sl_R}  (k : sl_At l mX1_program 0 [(0, vR 6 0)] [] M Q) : sl_Runs l mX1_program [vR 6 0] M Q := sl_Runs.of (ls := [(0, vR 6 0)]) rfl rfl (fun _ => rfl) (fun _ => Nat.le_of_ble_eq_true rfl) rfl (k)
theorem dX1_examine_0 : decode cX1_examine 0 = .ok (.aload_n 0, 1) := by decide +kernel
theorem dX1_examine_1 : decode cX1_examine 1 = .ok (.getfield 28, 3) := by decide +kernel
theorem dX1_examine_4 : decode cX1_examine 4 = .ok (.getfield 32, 3) := by decide +kernel
theorem dX1_examine_7 : decode cX1_examine 7 = .ok (.astore 4, 2) := by decide +kernel
theorem dX1_examine_9 : decode cX1_examine 9 = .ok (.aload 4, 2) := by decide +kernel
theorem dX1_examine_11 : decode cX1_examine 11 = .ok (.getfield 38, 3) := by decide +kernel
theorem dX1_examine_14 : decode cX1_examine 14 = .ok (.iconst 1, 1) := by decide +kernel
theorem dX1_examine_15 : decode cX1_examine 15 = .ok (.isub, 1) := by decide +kernel
theorem dX1_examine_16 : decode cX1_examine 16 = .ok (.istore 5, 2) := by decide +kernel
theorem dX1_examine_18 : decode cX1_examine 18 = .ok (.aload_n 1, 1) := by decide +kernel
theorem dX1_examine_19 : decode cX1_examine 19 = .ok (.iload_n 2, 1) := by decide +kernel
theorem dX1_examine_20 : decode cX1_examine 20 = .ok (.putfield 52, 3) := by decide +kernel
theorem dX1_examine_23 : decode cX1_examine 23 = .ok (.aload_n 1, 1) := by decide +kernel
theorem dX1_examine_24 : decode cX1_examine 24 = .ok (.iload_n 3, 1) := by decide +kernel
theorem dX1_examine_25 : decode cX1_examine 25 = .ok (.putfield 57, 3) := by decide +kernel
theorem dX1_examine_28 : decode cX1_examine 28 = .ok (.aload_n 1, 1) := by decide +kernel
theorem dX1_examine_29 : decode cX1_examine 29 = .ok (.iload_n 3, 1) := by decide +kernel
theorem dX1_examine_30 : decode cX1_examine 30 = .ok (.aload 4, 2) := by decide +kernel
theorem dX1_examine_32 : decode cX1_examine 32 = .ok (.getfield 60, 3) := by decide +kernel
theorem dX1_examine_35 : decode cX1_examine 35 = .ok (.iload_n 3, 1) := by decide +kernel
theorem dX1_examine_36 : decode cX1_examine 36 = .ok (.iaload, 1) := by decide +kernel
theorem dX1_examine_37 : decode cX1_examine 37 = .ok (.iadd, 1) := by decide +kernel
theorem dX1_examine_38 : decode cX1_examine 38 = .ok (.putfield 63, 3) := by decide +kernel
theorem dX1_examine_41 : decode cX1_examine 41 = .ok (.aload_n 0, 1) := by decide +kernel
theorem dX1_examine_42 : decode cX1_examine 42 = .ok (.iload_n 2, 1) := by decide +kernel
theorem dX1_examine_43 : decode cX1_examine 43 = .ok (.aload_n 1, 1) := by decide +kernel
theorem dX1_examine_44 : decode cX1_examine 44 = .ok (.getfield 63, 3) := by decide +kernel
theorem dX1_examine_47 : decode cX1_examine 47 = .ok (.iconst 0, 1) := by decide +kernel
theorem dX1_examine_48 : decode cX1_examine 48 = .ok (.aload_n 0, 1) := by decide +kernel
theorem dX1_examine_49 : decode cX1_examine 49 = .ok (.getfield 18, 3) := by decide +kernel
theorem dX1_examine_52 : decode cX1_examine 52 = .ok (.invokevirtual 48, 3) := by decide +kernel
theorem dX1_examine_55 : decode cX1_examine 55 = .ok (.aload_n 1, 1) := by decide +kernel
theorem dX1_examine_56 : decode cX1_examine 56 = .ok (.iconst 0, 1) := by decide +kernel
theorem dX1_examine_57 : decode cX1_examine 57 = .ok (.putfield 66, 3) := by decide +kernel
theorem dX1_examine_60 : decode cX1_examine 60 = .ok (.iconst 0, 1) := by decide +kernel
theorem dX1_examine_61 : decode cX1_examine 61 = .ok (.istore 6, 2) := by decide +kernel
theorem dX1_examine_63 : decode cX1_examine 63 = .ok (.iconst 1, 1) := by decide +kernel
theorem dX1_examine_64 : decode cX1_examine 64 = .ok (.istore 7, 2) := by decide +kernel
theorem dX1_examine_66 : decode cX1_examine 66 = .ok (.iload 7, 2) := by decide +kernel
theorem dX1_examine_68 : decode cX1_examine 68 = .ok (.bipush 8, 2) := by decide +kernel
theorem dX1_examine_70 : decode cX1_examine 70 = .ok (.if_icmp .gt 104, 3) := by decide +kernel
theorem dX1_examine_73 : decode cX1_examine 73 = .ok (.aload_n 1, 1) := by decide +kernel
theorem dX1_examine_74 : decode cX1_examine 74 = .ok (.getfield 69, 3) := by decide +kernel
theorem dX1_examine_77 : decode cX1_examine 77 = .ok (.iload 7, 2) := by decide +kernel
theorem dX1_examine_79 : decode cX1_examine 79 = .ok (.aload_n 0, 1) := by decide +kernel
theorem dX1_examine_80 : decode cX1_examine 80 = .ok (.getfield 21, 3) := by decide +kernel
theorem dX1_examine_83 : decode cX1_examine 83 = .ok (.iload 7, 2) := by decide +kernel
theorem dX1_examine_85 : decode cX1_examine 85 = .ok (.iaload, 1) := by decide +kernel
theorem dX1_examine_86 : decode cX1_examine 86 = .ok (.iastore, 1) := by decide +kernel
theorem dX1_examine_87 : decode cX1_examine 87 = .ok (.aload_n 1, 1) := by decide +kernel
theorem dX1_examine_88 : decode cX1_examine 88 = .ok (.getfield 70, 3) := by decide +kernel
theorem dX1_examine_91 : decode cX1_examine 91 = .ok (.iload 7, 2) := by decide +kernel
theorem dX1_examine_93 : decode cX1_examine 93 = .ok (.iconst 0, 1) := by decide +kernel
theorem dX1_examine_94 : decode cX1_examine 94 = .ok (.iastore, 1) := by decide +kernel
theorem dX1_examine_95 : decode cX1_examine 95 = .ok (.aload_n 0, 1) := by decide +kernel
theorem dX1_examine_96 : decode cX1_examine 96 = .ok (.getfield 21, 3) := by decide +kernel
theorem dX1_examine_99 : decode cX1_examine 99 = .ok (.iload 7, 2) := by decide +kernel
theorem dX1_examine_101 : decode cX1_examine 101 = .ok (.iaload, 1) := by decide +kernel
theorem dX1_examine_102 : decode cX1_examine 102 = .ok (.iconst (-1), 1) := by decide +kernel
theorem dX1_examine_103 : decode cX1_examine 103 = .ok (.if_icmp .eq 62, 3) := by decide +kernel
theorem dX1_examine_106 : decode cX1_examine 106 = .ok (.aload_n 1, 1) := by decide +kernel
theorem dX1_examine_107 : decode cX1_examine 107 = .ok (.dup, 1) := by decide +kernel
theorem dX1_examine_108 : decode cX1_examine 108 = .ok (.getfield 66, 3) := by decide +kernel
theorem dX1_examine_111 : decode cX1_examine 111 = .ok (.iload 7, 2) := by decide +kernel
theorem dX1_examine_113 : decode cX1_examine 113 = .ok (.ior, 1) := by decide +kernel
theorem dX1_examine_114 : decode cX1_examine 114 = .ok (.putfield 66, 3) := by decide +kernel
theorem dX1_examine_117 : decode cX1_examine 117 = .ok (.aload 4, 2) := by decide +kernel
theorem dX1_examine_119 : decode cX1_examine 119 = .ok (.iload_n 3, 1) := by decide +kernel
theorem dX1_examine_120 : decode cX1_examine 120 = .ok (.iload 7, 2) := by decide +kernel
theorem dX1_examine_122 : decode cX1_examine 122 = .ok (.iconst 0, 1) := by decide +kernel
theorem dX1_examine_123 : decode cX1_examine 123 = .ok (.iload 5, 2) := by decide +kernel
theorem dX1_examine_125 : decode cX1_examine 125 = .ok (.invokevirtual 73, 3) := by decide +kernel
theorem dX1_examine_128 : decode cX1_examine 128 = .ok (.istore 8, 2) := by decide +kernel
theorem dX1_examine_130 : decode cX1_examine 130 = .ok (.aload_n 1, 1) := by decide +kernel
theorem dX1_examine_131 : decode cX1_examine 131 = .ok (.getfield 70, 3) := by decide +kernel
theorem dX1_examine_134 : decode cX1_examine 134 = .ok (.iload 7, 2) := by decide +kernel
theorem dX1_examine_136 : decode cX1_examine 136 = .ok (.iload 8, 2) := by decide +kernel
theorem dX1_examine_138 : decode cX1_examine 138 = .ok (.ifCond .lt 13, 3) := by decide +kernel
theorem dX1_examine_141 : decode cX1_examine 141 = .ok (.aload_n 0, 1) := by decide +kernel
theorem dX1_examine_142 : decode cX1_examine 142 = .ok (.getfield 9, 3) := by decide +kernel
theorem dX1_examine_145 : decode cX1_examine 145 = .ok (.iload 8, 2) := by decide +kernel
theorem dX1_examine_147 : decode cX1_examine 147 = .ok (.iaload, 1) := by decide +kernel
theorem dX1_examine_148 : decode cX1_examine 148 = .ok (.goto 4, 3) := by decide +kernel
theorem dX1_examine_151 : decode cX1_examine 151 = .ok (.iconst 0, 1) := by decide +kernel
theorem dX1_examine_152 : decode cX1_examine 152 = .ok (.iastore, 1) := by decide +kernel
theorem dX1_examine_153 : decode cX1_examine 153 = .ok (.iload 6, 2) := by decide +kernel
theorem dX1_examine_155 : decode cX1_examine 155 = .ok (.aload_n 1, 1) := by decide +kernel
theorem dX1_examine_156 : decode cX1_examine 156 = .ok (.getfield 70, 3) := by decide +kernel
theorem dX1_examine_159 : decode cX1_examine 159 = .ok (.iload 7, 2) := by decide +kernel
theorem dX1_examine_161 : decode cX1_examine 161 = .ok (.iaload, 1) := by decide +kernel
theorem dX1_examine_162 : decode cX1_examine 162 = .ok (.ior, 1) := by decide +kernel
theorem dX1_examine_163 : decode cX1_examine 163 = .ok (.istore 6, 2) := by decide +kernel
theorem dX1_examine_165 : decode cX1_examine 165 = .ok (.iload 7, 2) := by decide +kernel
theorem dX1_examine_167 : decode cX1_examine 167 = .ok (.iconst 2, 1) := by decide +kernel
theorem dX1_examine_168 : decode cX1_examine 168 = .ok (.imul, 1) := by decide +kernel
theorem dX1_examine_169 : decode cX1_examine 169 = .ok (.istore 7, 2) := by decide +kernel
theorem dX1_examine_171 : decode cX1_examine 171 = .ok (.goto (-105), 3) := by decide +kernel
theorem dX1_examine_174 : decode cX1_examine 174 = .ok (.aload_n 1, 1) := by decide +kernel
theorem dX1_examine_175 : decode cX1_examine 175 = .ok (.iconst 0, 1) := by decide +kernel
theorem dX1_examine_176 : decode cX1_examine 176 = .ok (.putfield 77, 3) := by decide +kernel
theorem dX1_examine_179 : decode cX1_examine 179 = .ok (.iload_n 2, 1) := by decide +kernel
theorem dX1_examine_180 : decode cX1_examine 180 = .ok (.istore 7, 2) := by decide +kernel
theorem dX1_examine_182 : decode cX1_examine 182 = .ok (.iload 7, 2) := by decide +kernel
theorem dX1_examine_184 : decode cX1_examine 184 = .ok (.aload_n 1, 1) := by decide +kernel
theorem dX1_examine_185 : decode cX1_examine 185 = .ok (.getfield 63, 3) := by decide +kernel
theorem dX1_examine_188 : decode cX1_examine 188 = .ok (.if_icmp .gt 30, 3) := by decide +kernel
theorem dX1_examine_191 : decode cX1_examine 191 = .ok (.aload_n 1, 1) := by decide +kernel
theorem dX1_examine_192 : decode cX1_examine 192 = .ok (.dup, 1) := by decide +kernel
theorem dX1_examine_193 : decode cX1_examine 193 = .ok (.getfield 77, 3) := by decide +kernel
theorem dX1_examine_196 : decode cX1_examine 196 = .ok (.aload_n 0, 1) := by decide +kernel
theorem dX1_examine_197 : decode cX1_examine 197 = .ok (.getfield 28, 3) := by decide +kernel
theorem dX1_examine_200 : decode cX1_examine 200 = .ok (.iload 7, 2) := by decide +kernel
theorem dX1_examine_202 : decode cX1_examine 202 = .ok (.invokevirtual 80, 3) := by decide +kernel
theorem dX1_examine_205 : decode cX1_examine 205 = .ok (.iload 6, 2) := by decide +kernel
theorem dX1_examine_207 : decode cX1_examine 207 = .ok (.iand, 1) := by decide +kernel
theorem dX1_examine_208 : decode cX1_examine 208 = .ok (.ior, 1) := by decide +kernel
theorem dX1_examine_209 : decode cX1_examine 209 = .ok (.putfield 77, 3) := by decide +kernel
theorem dX1_examine_212 : decode cX1_examine 212 = .ok (.iinc 7 1, 3) := by decide +kernel
theorem dX1_examine_215 : decode cX1_examine 215 = .ok (.goto (-33), 3) := by decide +kernel
theorem dX1_examine_218 : decode cX1_examine 218 = .ok (.aload_n 0, 1) := by decide +kernel
theorem dX1_examine_219 : decode cX1_examine 219 = .ok (.iload_n 2, 1) := by decide +kernel
theorem dX1_examine_220 : decode cX1_examine 220 = .ok (.aload_n 1, 1) := by decide +kernel
theorem dX1_examine_221 : decode cX1_examine 221 = .ok (.getfield 63, 3) := by decide +kernel
theorem dX1_examine_224 : decode cX1_examine 224 = .ok (.aload_n 0, 1) := by decide +kernel
theorem dX1_examine_225 : decode cX1_examine 225 = .ok (.getfield 18, 3) := by decide +kernel
theorem dX1_examine_228 : decode cX1_examine 228 = .ok (.invokevirtual 44, 3) := by decide +kernel
theorem dX1_examine_231 : decode cX1_examine 231 = .ok (.aload_n 1, 1) := by decide +kernel
theorem dX1_examine_232 : decode cX1_examine 232 = .ok (.aload_n 0, 1) := by decide +kernel
theorem dX1_examine_233 : decode cX1_examine 233 = .ok (.getfield 18, 3) := by decide +kernel
theorem dX1_examine_236 : decode cX1_examine 236 = .ok (.iload_n 2, 1) := by decide +kernel
theorem dX1_examine_237 : decode cX1_examine 237 = .ok (.iaload, 1) := by decide +kernel
theorem dX1_examine_238 : decode cX1_examine 238 = .ok (.putfield 84, 3) := by decide +kernel
theorem dX1_examine_241 : decode cX1_examine 241 = .ok (.iconst 1, 1) := by decide +kernel
theorem dX1_examine_242 : decode cX1_examine 242 = .ok (.istore 7, 2) := by decide +kernel
theorem dX1_examine_244 : decode cX1_examine 244 = .ok (.iload 7, 2) := by decide +kernel
theorem dX1_examine_246 : decode cX1_examine 246 = .ok (.bipush 8, 2) := by decide +kernel
theorem dX1_examine_248 : decode cX1_examine 248 = .ok (.if_icmp .gt 43, 3) := by decide +kernel
theorem dX1_examine_251 : decode cX1_examine 251 = .ok (.aload_n 1, 1) := by decide +kernel
theorem dX1_examine_252 : decode cX1_examine 252 = .ok (.dup, 1) := by decide +kernel
theorem dX1_examine_253 : decode cX1_examine 253 = .ok (.getfield 84, 3) := by decide +kernel
theorem dX1_examine_256 : decode cX1_examine 256 = .ok (.aload_n 1, 1) := by decide +kernel
theorem dX1_examine_257 : decode cX1_examine 257 = .ok (.getfield 77, 3) := by decide +kernel
theorem dX1_examine_260 : decode cX1_examine 260 = .ok (.aload_n 1, 1) := by decide +kernel
theorem dX1_examine_261 : decode cX1_examine 261 = .ok (.getfield 70, 3) := by decide +kernel
theorem dX1_examine_264 : decode cX1_examine 264 = .ok (.iload 7, 2) := by decide +kernel
theorem dX1_examine_266 : decode cX1_examine 266 = .ok (.iaload, 1) := by decide +kernel
theorem dX1_examine_267 : decode cX1_examine 267 = .ok (.iand, 1) := by decide +kernel
theorem dX1_examine_268 : decode cX1_examine 268 = .ok (.aload_n 1, 1) := by decide +kernel
theorem dX1_examine_269 : decode cX1_examine 269 = .ok (.getfield 69, 3) := by decide +kernel
theorem dX1_examine_272 : decode cX1_examine 272 = .ok (.iload 7, 2) := by decide +kernel
theorem dX1_examine_274 : decode cX1_examine 274 = .ok (.iaload, 1) := by decide +kernel
theorem dX1_examine_275 : decode cX1_examine 275 = .ok (.iconst (-1), 1) := by decide +kernel
theorem dX1_examine_276 : decode cX1_examine 276 = .ok (.ixor, 1) := by decide +kernel
theorem dX1_examine_277 : decode cX1_examine 277 = .ok (.iand, 1) := by decide +kernel
theorem dX1_examine_278 : decode cX1_examine 278 = .ok (.ior, 1) := by decide +kernel
theorem dX1_examine_279 : decode cX1_examine 279 = .ok (.putfield 84, 3) := by decide +kernel
theorem dX1_examine_282 : decode cX1_examine 282 = .ok (.iload 7, 2) := by decide +kernel
theorem dX1_examine_284 : decode cX1_examine 284 = .ok (.iconst 2, 1) := by decide +kernel
theorem dX1_examine_285 : decode cX1_examine 285 = .ok (.imul, 1) := by decide +kernel
theorem dX1_examine_286 : decode cX1_examine 286 = .ok (.istore 7, 2) := by decide +kernel
theorem dX1_examine_288 : decode cX1_examine 288 = .ok (.goto (-44), 3) := by decide +kernel
theorem dX1_examine_291 : decode cX1_examine 291 = .ok (.aload_n 1, 1) := by decide +kernel
theorem dX1_examine_292 : decode cX1_examine 292 = .ok (.aload_n 0, 1) := by decide +kernel
theorem dX1_examine_293 : decode cX1_examine 293 = .ok (.aload_n 1, 1) := by decide +kernel
theorem dX1_examine_294 : decode cX1_examine 294 = .ok (.invokevirtual 87, 3) := by decide +kernel
theorem dX1_examine_297 : decode cX1_examine 297 = .ok (.putfield 91, 3) := by decide +kernel
theorem dX1_examine_300 : decode cX1_examine 300 = .ok (.return_, 1) := by decide +kernel
set_option maxHeartbeats 4000000 in
set_option maxRecDepth 10000 in
theorem vX1_examine_0 {l : Launch} {M : sl_M} {Q : sl_R} {o1 : Nat} {x2 x3 : Int} (ho1 : sl_cls o1 = 6) (H : sl_RM M → sl_rg x2 → sl_rg x3 → (∃ q1 : Nat, (M 6 0 0 = (q1 : Int) + 1 ∧ sl_cls q1 = 7) ∧ (sl_rg (M (q1 + 10) 0 11 - 1)) ∧ (∀ y3 : Int, y3 = M (q1 + 10) 0 11 - 1 → (∀ M4, M4 = sl_wr M o1 0 0 x2 → (∀ M5, M5 = sl_wr M4 o1 0 1 x3 → (0 ≤ x3 ∧ x3 < 40) ∧ (sl_rg (x3 + (M5 (q1 + 10) 3 x3))) ∧ (∀ M8, M8 = sl_wr M5 o1 0 2 (x3 + (M5 (q1 + 10) 3 x3)) → sl_RV l mX1_findSet [vR 6 0, vI x2, vI (M8 o1 0 2), vI 0, vR 6 5] M8 (fun M9 => (∀ M10, M10 = sl_wr M9 o1 0 3 0 → sl_At l mX1_examine 66 [(0, vR 6 0), (1, vR o1 0), (2, vI x2), (3, vI x3), (4, vR (q1 + 10) 0), (5, vI y3), (6, vI 0), (7, vI 1)] [] M10 Q)))))))) : sl_At l mX1_examine 0 [(0, vR 6 0), (1, vR o1 0), (2, vI x2), (3, vI x3)] [] M Q := by
  refine sl_At.in (fun hM hls => ?_)
  have g2 : sl_rg x2 := hls _ (List.mem_of_getElem? (i := 2) rfl)
  have g3 : sl_rg x3 := hls _ (List.mem_of_getElem? (i := 3) rfl)
  have H := H hM g2 g3
  refine r_aload_n (k := 0) rfl rfl dX1_examine_0 ?_
  obtain ⟨q1, ⟨wq1, zq1⟩, H⟩ := H
  refine r_getS (hw := rfl) wq1 fl_X1_28 dX1_examine_1 ?_
  refine r_getR (k := 0) (o' := q1 + 10) (i' := 0) ckX7 zq1 rfl (by decide) rfl rfl rfl fl_X1_32 dX1_examine_4 ?_
  refine r_astore (ls' := [(4, vR (q1 + 10) 0), (0, vR 6 0), (1, vR o1 0), (2, vI x2), (3, vI x3)]) (by decide) rfl dX1_examine_7 ?_
  refine r_aload (k := 0) rfl dX1_examine_9 ?_
  refine r_gI (k := 11) (kz := 11) rfl ckX0 (cl_prog zq1) rfl (by decide) rfl rfl fl_X1_38 dX1_examine_11 ?_
  refine r_iconst dX1_examine_14 ?_
  refine r_isub dX1_examine_15 ?_
  obtain ⟨c2, H⟩ := H
  refine r_nm (fun y3 fy3 => ?_)
  have H := H y3 fy3
  have gy3 : sl_rg y3 := by rw [fy3]; exact c2
  refine r_istore (ls' := [(5, vI y3), (4, vR (q1 + 10) 0), (0, vR 6 0), (1, vR o1 0), (2, vI x2), (3, vI x3)]) gy3 (by decide) rfl dX1_examine_16 ?_
  refine r_aload_n (k := 3) rfl rfl dX1_examine_18 ?_
  refine r_iload_n (k := 4) rfl rfl dX1_examine_19 ?_
  refine r_pI (k := 0) (kz := 0) rfl ckX6 ho1 rfl (by decide) rfl rfl rfl rfl fl_X1_52 g2 dX1_examine_20 ?_
  refine r_mm (fun M4 e4 => ?_)
  have H := H M4 e4
  have hM4 : sl_RM M4 := by rw [e4]; exact sl_wr_RM hM g2
  refine r_aload_n (k := 3) rfl rfl dX1_examine_23 ?_
  refine r_iload_n (k := 5) rfl rfl dX1_examine_24 ?_
  refine r_pI (k := 1) (kz := 1) rfl ckX6 ho1 rfl (by decide) rfl rfl rfl rfl fl_X1_57 g3 dX1_examine_25 ?_
  refine r_mm (fun M5 e5 => ?_)
  have H := H M5 e5
  have hM5 : sl_RM M5 := by rw [e5]; exact sl_wr_RM hM4 g3
  refine r_aload_n (k := 3) rfl rfl dX1_examine_28 ?_
  refine r_iload_n (k := 5) rfl rfl dX1_examine_29 ?_
  refine r_aload (k := 1) rfl dX1_examine_30 ?_
  refine r_getR (k := 2) (o' := q1 + 10) (i' := 3) ckX0 (cl_prog zq1) rfl (by decide) rfl rfl rfl fl_X1_60 dX1_examine_32 ?_
  refine r_iload_n (k := 5) rfl rfl dX1_examine_35 ?_
  obtain ⟨c6, H⟩ := H
  refine r_iald (cl_prog zq1) rfl rfl c6 dX1_examine_36 ?_
  refine r_iadd dX1_examine_37 ?_
  obtain ⟨c7, H⟩ := H
  refine r_pI (k := 2) (kz := 2) rfl ckX6 ho1 rfl (by decide) rfl rfl rfl rfl fl_X1_63 c7 dX1_examine_38 ?_
  refine r_mm (fun M8 e8 => ?_)
  have H := H M8 e8
  have hM8 : sl_RM M8 := by rw [e8]; exact sl_wr_RM hM5 c7
  refine r_aload_n (k := 2) rfl rfl dX1_examine_41 ?_
  refine r_iload_n (k := 4) rfl rfl dX1_examine_42 ?_
  refine r_aload_n (k := 3) rfl rfl dX1_examine_43 ?_
  refine r_gI (k := 2) (kz := 2) rfl ckX6 ho1 rfl (by decide) rfl rfl fl_X1_63 dX1_examine_44 ?_
  refine r_iconst dX1_examine_47 ?_
  refine r_aload_n (k := 2) rfl rfl dX1_examine_48 ?_
  refine r_getR (k := 4) (o' := 6) (i' := 5) ckX1 rfl rfl (by decide) rfl rfl rfl fl_X1_18 dX1_examine_49 ?_
  refine r_callV (g := mX1_findSet) ckX1 rfl rfl rfl rfl mkX1_findSet mvX1_findSet ml_X1_48 ⟨by decide, by decide⟩ rfl (Nat.le_of_ble_eq_true rfl) rfl (ok_i g2 (ok_i (hM8 _ _ _) (ok_i ⟨by decide, by decide⟩ (ok_r ok_n)))) dX1_examine_52 (sl_afterV (sl_RV.mono (fun M9 hM9 H => ?_) H))
  refine r_aload_n (k := 3) rfl rfl dX1_examine_55 ?_
  refine r_iconst dX1_examine_56 ?_
  refine r_pI (k := 3) (kz := 3) rfl ckX6 ho1 rfl (by decide) rfl rfl rfl rfl fl_X1_66 ⟨by decide, by decide⟩ dX1_examine_57 ?_
  refine r_mm (fun M10 e10 => ?_)
  have H := H M10 e10
  have hM10 : sl_RM M10 := by rw [e10]; exact sl_wr_RM hM9 ⟨by decide, by decide⟩
  refine r_iconst dX1_examine_60 ?_
  refine r_istore (ls' := [(6, vI 0), (5, vI y3), (4, vR (q1 + 10) 0), (0, vR 6 0), (1, vR o1 0), (2, vI x2), (3, vI x3)]) ⟨by decide, by decide⟩ (by decide) rfl dX1_examine_61 ?_
  refine r_iconst dX1_examine_63 ?_
  refine r_istore (ls' := [(7, vI 1), (6, vI 0), (5, vI y3), (4, vR (q1 + 10) 0), (0, vR 6 0), (1, vR o1 0), (2, vI x2), (3, vI x3)]) ⟨by decide, by decide⟩ (by decide) rfl dX1_examine_64 ?_
  exact sl_At.sub [4, 5, 6, 7, 3, 2, 1, 0] rfl H
set_option maxHeartbeats 4000000 in
set_option maxRecDepth 10000 in
theorem vX1_examine_66 {l : Launch} {M : sl_M} {Q : sl_R} {o1 o4 : Nat} {x2 x3 x5 x6 x7 : Int} (ho1 : sl_cls o1 = 6) (ho4 : sl_cls o4 = 0) (H : sl_RM M → sl_rg x2 → sl_rg x3 → sl_rg x5 → sl_rg x6 → sl_rg x7 → ((8 < x7) → (∀ M2, M2 = sl_wr M o1 0 5 0 → sl_At l mX1_examine 182 [(0, vR 6 0), (1, vR o1 0), (2, vI x2), (6, vI x6), (7, vI x2)] [] M2 Q)) ∧ ((¬ (8 < x7)) → (0 ≤ x7 ∧ x7 < 9) ∧ (∀ M4, M4 = sl_wr M o1 9 x7 (M 6 6 x7) → (∀ M5, M5 = sl_wr M4 o1 8 x7 0 → ((M5 6 6 x7 = (-1)) → (sl_rg (x7 * 2)) ∧ (∀ y8 : Int, y8 = x7 * 2 → sl_At l mX1_examine 66 [(0, vR 6 0), (1, vR o1 0), (2, vI x2), (3, vI x3), (4, vR o4 0), (5, vI x5), (6, vI x6), (7, vI y8)] [] M5 Q)) ∧ ((¬ (M5 6 6 x7 = (-1))) → (∀ M9, M9 = sl_wr M5 o1 0 3 (ior (M5 o1 0 3) x7) → sl_RI l mX0_target [vR o4 0, vI x3, vI x7, vI 0, vI x5] M9 (fun y11 M10 => (((¬ (y11 < 0)) → (0 ≤ y11 ∧ y11 < 40))) ∧ (∀ M14, M14 = sl_wr M10 o1 8 x7 (if y11 < 0 then 0 else M10 6 3 y11) → (∀ y15 : Int, y15 = ior x6 (M14 o1 8 x7) → (sl_rg (x7 * 2)) ∧ (∀ y17 : Int, y17 = x7 * 2 → sl_At l mX1_examine 66 [(0, vR 6 0), (1, vR o1 0), (2, vI x2), (3, vI x3), (4, vR o4 0), (5, vI x5), (6, vI y15), (7, vI y17)] [] M14 Q)))))))))) : sl_At l mX1_examine 66 [(0, vR 6 0), (1, vR o1 0), (2, vI x2), (3, vI x3), (4, vR o4 0), (5, vI x5), (6, vI x6), (7, vI x7)] [] M Q := by
  refine sl_At.in (fun hM hls => ?_)
  have g2 : sl_rg x2 := hls _ (List.mem_of_getElem? (i := 2) rfl)
  have g3 : sl_rg x3 := hls _ (List.mem_of_getElem? (i := 3) rfl)
  have g5 : sl_rg x5 := hls _ (List.mem_of_getElem? (i := 5) rfl)
  have g6 : sl_rg x6 := hls _ (List.mem_of_getElem? (i := 6) rfl)
  have g7 : sl_rg x7 := hls _ (List.mem_of_getElem? (i := 7) rfl)
  have H := H hM g2 g3 g5 g6 g7
  refine r_iload (k := 7) rfl dX1_examine_66 ?_
  refine r_bipush dX1_examine_68 (by decide) ?_
  refine r_icmp_gt (tgt := 174) g7 ⟨by decide, by decide⟩ dX1_examine_70 (by decide) (fun h1 => ?_) (fun h1 => ?_)
  · have H := H.1 h1
    refine r_aload_n (k := 1) rfl rfl dX1_examine_174 ?_
    refine r_iconst dX1_examine_175 ?_
    refine r_pI (k := 5) (kz := 5) rfl ckX6 ho1 rfl (by decide) rfl rfl rfl rfl fl_X1_77 ⟨by decide, by decide⟩ dX1_examine_176 ?_
    refine r_mm (fun M2 e2 => ?_)
    have H := H M2 e2
    have hM2 : sl_RM M2 := by rw [e2]; exact sl_wr_RM hM ⟨by decide, by decide⟩
    refine r_iload_n (k := 2) rfl rfl dX1_examine_179 ?_
    refine r_istore (ls' := [(7, vI x2), (0, vR 6 0), (1, vR o1 0), (2, vI x2), (3, vI x3), (4, vR o4 0), (5, vI x5), (6, vI x6)]) g2 (by decide) rfl dX1_examine_180 ?_
    exact sl_At.sub [1, 2, 3, 7, 0] rfl H
  · have H := H.2 h1
    refine r_aload_n (k := 1) rfl rfl dX1_examine_73 ?_
    refine r_getR (k := 8) (o' := o1) (i' := 9) ckX6 ho1 rfl (by decide) rfl rfl rfl fl_X1_69 dX1_examine_74 ?_
    refine r_iload (k := 7) rfl dX1_examine_77 ?_
    refine r_aload_n (k := 0) rfl rfl dX1_examine_79 ?_
    refine r_getR (k := 5) (o' := 6) (i' := 6) ckX1 rfl rfl (by decide) rfl rfl rfl fl_X1_21 dX1_examine_80 ?_
    refine r_iload (k := 7) rfl dX1_examine_83 ?_
    obtain ⟨c3, H⟩ := H
    refine r_iald rfl rfl rfl c3 dX1_examine_85 ?_
    refine r_iast ho1 rfl rfl c3 (hM _ _ _) dX1_examine_86 ?_
    refine r_mm (fun M4 e4 => ?_)
    have H := H M4 e4
    have hM4 : sl_RM M4 := by rw [e4]; exact sl_wr_RM hM (hM _ _ _)
    refine r_aload_n (k := 1) rfl rfl dX1_examine_87 ?_
    refine r_getR (k := 7) (o' := o1) (i' := 8) ckX6 ho1 rfl (by decide) rfl rfl rfl fl_X1_70 dX1_examine_88 ?_
    refine r_iload (k := 7) rfl dX1_examine_91 ?_
    refine r_iconst dX1_examine_93 ?_
    refine r_iast ho1 rfl rfl c3 ⟨by decide, by decide⟩ dX1_examine_94 ?_
    refine r_mm (fun M5 e5 => ?_)
    have H := H M5 e5
    have hM5 : sl_RM M5 := by rw [e5]; exact sl_wr_RM hM4 ⟨by decide, by decide⟩
    refine r_aload_n (k := 0) rfl rfl dX1_examine_95 ?_
    refine r_getR (k := 5) (o' := 6) (i' := 6) ckX1 rfl rfl (by decide) rfl rfl rfl fl_X1_21 dX1_examine_96 ?_
    refine r_iload (k := 7) rfl dX1_examine_99 ?_
    refine r_iald rfl rfl rfl c3 dX1_examine_101 ?_
    refine r_iconst dX1_examine_102 ?_
    refine r_icmp_eq (tgt := 165) (hM5 _ _ _) ⟨by decide, by decide⟩ dX1_examine_103 (by decide) (fun h6 => ?_) (fun h6 => ?_)
    · have H := H.1 h6
      refine r_iload (k := 7) rfl dX1_examine_165 ?_
      refine r_iconst dX1_examine_167 ?_
      refine r_imul dX1_examine_168 ?_
      obtain ⟨c7, H⟩ := H
      refine r_nm (fun y8 fy8 => ?_)
      have H := H y8 fy8
      have gy8 : sl_rg y8 := by rw [fy8]; exact c7
      refine r_istore (ls' := [(7, vI y8), (0, vR 6 0), (1, vR o1 0), (2, vI x2), (3, vI x3), (4, vR o4 0), (5, vI x5), (6, vI x6)]) gy8 (by decide) rfl dX1_examine_169 ?_
      refine r_goto (tgt := 66) dX1_examine_171 (by decide) ?_
      exact sl_At.sub [1, 2, 3, 4, 5, 6, 7, 0] rfl H
    · have H := H.2 h6
      refine r_aload_n (k := 1) rfl rfl dX1_examine_106 ?_
      refine r_dup rfl dX1_examine_107 ?_
      refine r_gI (k := 3) (kz := 3) rfl ckX6 ho1 rfl (by decide) rfl rfl fl_X1_66 dX1_examine_108 ?_
      refine r_iload (k := 7) rfl dX1_examine_111 ?_
      refine r_ior dX1_examine_113 ?_
      refine r_pI (k := 3) (kz := 3) rfl ckX6 ho1 rfl (by decide) rfl rfl rfl rfl fl_X1_66 (rg_ior _ _) dX1_examine_114 ?_
      refine r_mm (fun M9 e9 => ?_)
      have H := H M9 e9
      have hM9 : sl_RM M9 := by rw [e9]; exact sl_wr_RM hM5 (rg_ior _ _)
      refine r_aload (k := 4) rfl dX1_examine_117 ?_
      refine r_iload_n (k := 3) rfl rfl dX1_examine_119 ?_
      refine r_iload (k := 7) rfl dX1_examine_120 ?_
      refine r_iconst dX1_examine_122 ?_
      refine r_iload (k := 5) rfl dX1_examine_123 ?_
      refine r_callV (g := mX0_target) ckX0 ho4 rfl rfl rfl mkX0_target mvX0_target ml_X1_73 ⟨by decide, by decide⟩ rfl (Nat.le_of_ble_eq_true rfl) rfl (ok_i g3 (ok_i g7 (ok_i ⟨by decide, by decide⟩ (ok_i g5 ok_n)))) dX1_examine_125 (sl_afterI (sl_RI.mono (fun y11 M10 gy11 hM10 H => ?_) H))
      refine r_istore (ls' := [(8, vI y11), (0, vR 6 0), (1, vR o1 0), (2, vI x2), (3, vI x3), (4, vR o4 0), (5, vI x5), (6, vI x6), (7, vI x7)]) gy11 (by decide) rfl dX1_examine_128 ?_
      refine r_aload_n (k := 2) rfl rfl dX1_examine_130 ?_
      refine r_getR (k := 7) (o' := o1) (i' := 8) ckX6 ho1 rfl (by decide) rfl rfl rfl fl_X1_70 dX1_examine_131 ?_
      refine r_iload (k := 8) rfl dX1_examine_134 ?_
      refine r_iload (k := 0) rfl dX1_examine_136 ?_
      obtain ⟨K, H⟩ := H
      have J : sl_At l mX1_examine 152 [(8, vI y11), (0, vR 6 0), (1, vR o1 0), (2, vI x2), (3, vI x3), (4, vR o4 0), (5, vI x5), (6, vI x6), (7, vI x7)] [vI (if y11 < 0 then 0 else M10 6 3 y11), vI x7, vR o1 8] M10 Q := by
        refine r_iast ho1 rfl rfl c3 (sl_rgite ⟨by decide, by decide⟩ (hM10 _ _ _)) dX1_examine_152 ?_
        refine r_mm (fun M14 e14 => ?_)
        have H := H M14 e14
        have hM14 : sl_RM M14 := by rw [e14]; exact sl_wr_RM hM10 (sl_rgite ⟨by decide, by decide⟩ (hM10 _ _ _))
        refine r_iload (k := 7) rfl dX1_examine_153 ?_
        refine r_aload_n (k := 2) rfl rfl dX1_examine_155 ?_
        refine r_getR (k := 7) (o' := o1) (i' := 8) ckX6 ho1 rfl (by decide) rfl rfl rfl fl_X1_70 dX1_examine_156 ?_
        refine r_iload (k := 8) rfl dX1_examine_159 ?_
        refine r_iald ho1 rfl rfl c3 dX1_examine_161 ?_
        refine r_ior dX1_examine_162 ?_
        refine r_nm (fun y15 fy15 => ?_)
        have H := H y15 fy15
        have gy15 : sl_rg y15 := by rw [fy15]; exact (rg_ior _ _)
        refine r_istore (ls' := [(6, vI y15), (8, vI y11), (0, vR 6 0), (1, vR o1 0), (2, vI x2), (3, vI x3), (4, vR o4 0), (5, vI x5), (7, vI x7)]) gy15 (by decide) rfl dX1_examine_163 ?_
        refine r_iload (k := 8) rfl dX1_examine_165 ?_
        refine r_iconst dX1_examine_167 ?_
        refine r_imul dX1_examine_168 ?_
        obtain ⟨c16, H⟩ := H
        refine r_nm (fun y17 fy17 => ?_)
        have H := H y17 fy17
        have gy17 : sl_rg y17 := by rw [fy17]; exact c16
        refine r_istore (ls' := [(7, vI y17), (6, vI y15), (8, vI y11), (0, vR 6 0), (1, vR o1 0), (2, vI x2), (3, vI x3), (4, vR o4 0), (5, vI x5)]) gy17 (by decide) rfl dX1_examine_169 ?_
        refine r_goto (tgt := 66) dX1_examine_171 (by decide) ?_
        exact sl_At.sub [3, 4, 5, 6, 7, 8, 1, 0] rfl H
      refine r_if_lt (tgt := 151) gy11 dX1_examine_138 (by decide) (fun h13 => ?_) (fun h13 => ?_)
      · refine r_iconst dX1_examine_151 ?_
        rw [if_pos h13] at J
        exact J
      · replace K := K h13
        have c12 := K
        refine r_aload_n (k := 1) rfl rfl dX1_examine_141 ?_
        refine r_getR (k := 2) (o' := 6) (i' := 3) ckX1 rfl rfl (by decide) rfl rfl rfl fl_X1_9 dX1_examine_142 ?_
        refine r_iload (k := 0) rfl dX1_examine_145 ?_
        refine r_iald rfl rfl rfl c12 dX1_examine_147 ?_
        refine r_goto (tgt := 152) dX1_examine_148 (by decide) ?_
        rw [if_neg h13] at J
        exact J
set_option maxHeartbeats 4000000 in
set_option maxRecDepth 10000 in
theorem vX1_examine_182 {l : Launch} {M : sl_M} {Q : sl_R} {o1 : Nat} {x2 x6 x7 : Int} (ho1 : sl_cls o1 = 6) (H : sl_RM M → sl_rg x2 → sl_rg x6 → sl_rg x7 → ((M o1 0 2 < x7) → sl_RV l mX1_findLive [vR 6 0, vI x2, vI (M o1 0 2), vR 6 5] M (fun M2 => (0 ≤ x2 ∧ x2 < 40) ∧ (∀ M4, M4 = sl_wr M2 o1 0 4 (M2 6 5 x2) → sl_At l mX1_examine 244 [(0, vR 6 0), (1, vR o1 0), (7, vI 1)] [] M4 Q))) ∧ ((¬ (M o1 0 2 < x7)) → (∃ q5 : Nat, (M 6 0 0 = (q5 : Int) + 1 ∧ sl_cls q5 = 7) ∧ sl_RI l mX7_changedBy [vR q5 0, vI x7] M (fun y7 M6 => (∀ M8, M8 = sl_wr M6 o1 0 5 (ior (M o1 0 5) (iand y7 x6)) → (sl_rg (x7 + 1)) ∧ sl_At l mX1_examine 182 [(0, vR 6 0), (1, vR o1 0), (2, vI x2), (6, vI x6), (7, vI (x7 + 1))] [] M8 Q))))) : sl_At l mX1_examine 182 [(0, vR 6 0), (1, vR o1 0), (2, vI x2), (6, vI x6), (7, vI x7)] [] M Q := by
  refine sl_At.in (fun hM hls => ?_)
  have g2 : sl_rg x2 := hls _ (List.mem_of_getElem? (i := 2) rfl)
  have g6 : sl_rg x6 := hls _ (List.mem_of_getElem? (i := 3) rfl)
  have g7 : sl_rg x7 := hls _ (List.mem_of_getElem? (i := 4) rfl)
  have H := H hM g2 g6 g7
  refine r_iload (k := 4) rfl dX1_examine_182 ?_
  refine r_aload_n (k := 1) rfl rfl dX1_examine_184 ?_
  refine r_gI (k := 2) (kz := 2) rfl ckX6 ho1 rfl (by decide) rfl rfl fl_X1_63 dX1_examine_185 ?_
  refine r_icmp_gt (tgt := 218) g7 (hM _ _ _) dX1_examine_188 (by decide) (fun h1 => ?_) (fun h1 => ?_)
  · have H := H.1 h1
    refine r_aload_n (k := 0) rfl rfl dX1_examine_218 ?_
    refine r_iload_n (k := 2) rfl rfl dX1_examine_219 ?_
    refine r_aload_n (k := 1) rfl rfl dX1_examine_220 ?_
    refine r_gI (k := 2) (kz := 2) rfl ckX6 ho1 rfl (by decide) rfl rfl fl_X1_63 dX1_examine_221 ?_
    refine r_aload_n (k := 0) rfl rfl dX1_examine_224 ?_
    refine r_getR (k := 4) (o' := 6) (i' := 5) ckX1 rfl rfl (by decide) rfl rfl rfl fl_X1_18 dX1_examine_225 ?_
    refine r_callV (g := mX1_findLive) ckX1 rfl rfl rfl rfl mkX1_findLive mvX1_findLive ml_X1_44 ⟨by decide, by decide⟩ rfl (Nat.le_of_ble_eq_true rfl) rfl (ok_i g2 (ok_i (hM _ _ _) (ok_r ok_n))) dX1_examine_228 (sl_afterV (sl_RV.mono (fun M2 hM2 H => ?_) H))
    refine r_aload_n (k := 1) rfl rfl dX1_examine_231 ?_
    refine r_aload_n (k := 0) rfl rfl dX1_examine_232 ?_
    refine r_getR (k := 4) (o' := 6) (i' := 5) ckX1 rfl rfl (by decide) rfl rfl rfl fl_X1_18 dX1_examine_233 ?_
    refine r_iload_n (k := 2) rfl rfl dX1_examine_236 ?_
    obtain ⟨c3, H⟩ := H
    refine r_iald rfl rfl rfl c3 dX1_examine_237 ?_
    refine r_pI (k := 4) (kz := 4) rfl ckX6 ho1 rfl (by decide) rfl rfl rfl rfl fl_X1_84 (hM2 _ _ _) dX1_examine_238 ?_
    refine r_mm (fun M4 e4 => ?_)
    have H := H M4 e4
    have hM4 : sl_RM M4 := by rw [e4]; exact sl_wr_RM hM2 (hM2 _ _ _)
    refine r_iconst dX1_examine_241 ?_
    refine r_istore (ls' := [(7, vI 1), (0, vR 6 0), (1, vR o1 0), (2, vI x2), (6, vI x6)]) ⟨by decide, by decide⟩ (by decide) rfl dX1_examine_242 ?_
    exact sl_At.sub [1, 2, 0] rfl H
  · have H := H.2 h1
    refine r_aload_n (k := 1) rfl rfl dX1_examine_191 ?_
    refine r_dup rfl dX1_examine_192 ?_
    refine r_gI (k := 5) (kz := 5) rfl ckX6 ho1 rfl (by decide) rfl rfl fl_X1_77 dX1_examine_193 ?_
    refine r_aload_n (k := 0) rfl rfl dX1_examine_196 ?_
    obtain ⟨q5, ⟨wq5, zq5⟩, H⟩ := H
    refine r_getS (hw := rfl) wq5 fl_X1_28 dX1_examine_197 ?_
    refine r_iload (k := 4) rfl dX1_examine_200 ?_
    refine r_callV (g := mX7_changedBy) ckX7 zq5 rfl rfl rfl mkX7_changedBy mvX7_changedBy ml_X1_80 ⟨by decide, by decide⟩ rfl (Nat.le_of_ble_eq_true rfl) rfl (ok_i g7 ok_n) dX1_examine_202 (sl_afterI (sl_RI.mono (fun y7 M6 gy7 hM6 H => ?_) H))
    refine r_iload (k := 3) rfl dX1_examine_205 ?_
    refine r_iand dX1_examine_207 ?_
    refine r_ior dX1_examine_208 ?_
    refine r_pI (k := 5) (kz := 5) rfl ckX6 ho1 rfl (by decide) rfl rfl rfl rfl fl_X1_77 (rg_ior _ _) dX1_examine_209 ?_
    refine r_mm (fun M8 e8 => ?_)
    have H := H M8 e8
    have hM8 : sl_RM M8 := by rw [e8]; exact sl_wr_RM hM6 (rg_ior _ _)
    obtain ⟨c9, H⟩ := H
    refine r_iinc (k := 4) (ls' := [(7, vI (x7 + 1)), (0, vR 6 0), (1, vR o1 0), (2, vI x2), (6, vI x6)]) rfl c9 (by decide) rfl dX1_examine_212 ?_
    refine r_goto (tgt := 182) dX1_examine_215 (by decide) ?_
    exact sl_At.sub [1, 2, 3, 4, 0] rfl H
set_option maxHeartbeats 4000000 in
set_option maxRecDepth 10000 in
theorem vX1_examine_244 {l : Launch} {M : sl_M} {Q : sl_R} {o1 : Nat} {x7 : Int} (ho1 : sl_cls o1 = 6) (H : sl_RM M → sl_rg x7 → ((8 < x7) → sl_RI l mX1_reason [vR 6 0, vR o1 0] M (fun y3 M2 => (∀ M4, M4 = sl_wr M2 o1 0 6 y3 → Q none M4))) ∧ ((¬ (8 < x7)) → (0 ≤ x7 ∧ x7 < 9) ∧ (∀ M6, M6 = sl_wr M o1 0 4 (ior (M o1 0 4) (iand (iand (M o1 0 5) (M o1 8 x7)) (ixor (M o1 9 x7) (-1)))) → (sl_rg (x7 * 2)) ∧ (∀ y8 : Int, y8 = x7 * 2 → sl_At l mX1_examine 244 [(0, vR 6 0), (1, vR o1 0), (7, vI y8)] [] M6 Q)))) : sl_At l mX1_examine 244 [(0, vR 6 0), (1, vR o1 0), (7, vI x7)] [] M Q := by
  refine sl_At.in (fun hM hls => ?_)
  have g7 : sl_rg x7 := hls _ (List.mem_of_getElem? (i := 2) rfl)
  have H := H hM g7
  refine r_iload (k := 2) rfl dX1_examine_244 ?_
  refine r_bipush dX1_examine_246 (by decide) ?_
  refine r_icmp_gt (tgt := 291) g7 ⟨by decide, by decide⟩ dX1_examine_248 (by decide) (fun h1 => ?_) (fun h1 => ?_)
  · have H := H.1 h1
    refine r_aload_n (k := 1) rfl rfl dX1_examine_291 ?_
    refine r_aload_n (k := 0) rfl rfl dX1_examine_292 ?_
    refine r_aload_n (k := 1) rfl rfl dX1_examine_293 ?_
    refine r_callV (g := mX1_reason) ckX1 rfl rfl rfl rfl mkX1_reason mvX1_reason ml_X1_87 ⟨by decide, by decide⟩ rfl (Nat.le_of_ble_eq_true rfl) rfl (ok_r ok_n) dX1_examine_294 (sl_afterI (sl_RI.mono (fun y3 M2 gy3 hM2 H => ?_) H))
    refine r_pI (k := 6) (kz := 6) rfl ckX6 ho1 rfl (by decide) rfl rfl rfl rfl fl_X1_91 gy3 dX1_examine_297 ?_
    refine r_mm (fun M4 e4 => ?_)
    have H := H M4 e4
    have hM4 : sl_RM M4 := by rw [e4]; exact sl_wr_RM hM2 gy3
    refine r_vret rfl dX1_examine_300 ?_
    exact H
  · have H := H.2 h1
    refine r_aload_n (k := 1) rfl rfl dX1_examine_251 ?_
    refine r_dup rfl dX1_examine_252 ?_
    refine r_gI (k := 4) (kz := 4) rfl ckX6 ho1 rfl (by decide) rfl rfl fl_X1_84 dX1_examine_253 ?_
    refine r_aload_n (k := 1) rfl rfl dX1_examine_256 ?_
    refine r_gI (k := 5) (kz := 5) rfl ckX6 ho1 rfl (by decide) rfl rfl fl_X1_77 dX1_examine_257 ?_
    refine r_aload_n (k := 1) rfl rfl dX1_examine_260 ?_
    refine r_getR (k := 7) (o' := o1) (i' := 8) ckX6 ho1 rfl (by decide) rfl rfl rfl fl_X1_70 dX1_examine_261 ?_
    refine r_iload (k := 2) rfl dX1_examine_264 ?_
    obtain ⟨c5, H⟩ := H
    refine r_iald ho1 rfl rfl c5 dX1_examine_266 ?_
    refine r_iand dX1_examine_267 ?_
    refine r_aload_n (k := 1) rfl rfl dX1_examine_268 ?_
    refine r_getR (k := 8) (o' := o1) (i' := 9) ckX6 ho1 rfl (by decide) rfl rfl rfl fl_X1_69 dX1_examine_269 ?_
    refine r_iload (k := 2) rfl dX1_examine_272 ?_
    refine r_iald ho1 rfl rfl c5 dX1_examine_274 ?_
    refine r_iconst dX1_examine_275 ?_
    refine r_ixor dX1_examine_276 ?_
    refine r_iand dX1_examine_277 ?_
    refine r_ior dX1_examine_278 ?_
    refine r_pI (k := 4) (kz := 4) rfl ckX6 ho1 rfl (by decide) rfl rfl rfl rfl fl_X1_84 (rg_ior _ _) dX1_examine_279 ?_
    refine r_mm (fun M6 e6 => ?_)
    have H := H M6 e6
    have hM6 : sl_RM M6 := by rw [e6]; exact sl_wr_RM hM (rg_ior _ _)
    refine r_iload (k := 2) rfl dX1_examine_282 ?_
    refine r_iconst dX1_examine_284 ?_
    refine r_imul dX1_examine_285 ?_
    obtain ⟨c7, H⟩ := H
    refine r_nm (fun y8 fy8 => ?_)
    have H := H y8 fy8
    have gy8 : sl_rg y8 := by rw [fy8]; exact c7
    refine r_istore (ls' := [(7, vI y8), (0, vR 6 0), (1, vR o1 0)]) gy8 (by decide) rfl dX1_examine_286 ?_
    refine r_goto (tgt := 244) dX1_examine_288 (by decide) ?_
    exact sl_At.sub [1, 2, 0] rfl H
theorem eX1_examine {l : Launch} {M : sl_M} {Q : sl_R} {o1 : Nat} {x2 x3 : Int} (k : sl_At l mX1_examine 0 [(0, vR 6 0), (1, vR o1 0), (2, vI x2), (3, vI x3)] [] M Q) : sl_Runs l mX1_examine [vR 6 0, vR o1 0, vI x2, vI x3] M Q := sl_Runs.of (ls := [(0, vR 6 0), (1, vR o1 0), (2, vI x2), (3, vI x3)]) rfl rfl (fun _ => rfl) (fun _ => Nat.le_of_ble_eq_true rfl) rfl (k)
theorem dX1_reason_0 : decode cX1_reason 0 = .ok (.aload_n 1, 1) := by decide +kernel
theorem dX1_reason_1 : decode cX1_reason 1 = .ok (.getfield 52, 3) := by decide +kernel
theorem dX1_reason_4 : decode cX1_reason 4 = .ok (.istore_n 2, 1) := by decide +kernel
theorem dX1_reason_5 : decode cX1_reason 5 = .ok (.iload_n 2, 1) := by decide +kernel
theorem dX1_reason_6 : decode cX1_reason 6 = .ok (.aload_n 1, 1) := by decide +kernel
theorem dX1_reason_7 : decode cX1_reason 7 = .ok (.getfield 63, 3) := by decide +kernel
theorem dX1_reason_10 : decode cX1_reason 10 = .ok (.if_icmp .gt 28, 3) := by decide +kernel
theorem dX1_reason_13 : decode cX1_reason 13 = .ok (.aload_n 0, 1) := by decide +kernel
theorem dX1_reason_14 : decode cX1_reason 14 = .ok (.getfield 28, 3) := by decide +kernel
theorem dX1_reason_17 : decode cX1_reason 17 = .ok (.getfield 32, 3) := by decide +kernel
theorem dX1_reason_20 : decode cX1_reason 20 = .ok (.getfield 94, 3) := by decide +kernel
theorem dX1_reason_23 : decode cX1_reason 23 = .ok (.iload_n 2, 1) := by decide +kernel
theorem dX1_reason_24 : decode cX1_reason 24 = .ok (.iaload, 1) := by decide +kernel
theorem dX1_reason_25 : decode cX1_reason 25 = .ok (.bipush 7, 2) := by decide +kernel
theorem dX1_reason_27 : decode cX1_reason 27 = .ok (.if_icmp .ne 5, 3) := by decide +kernel
theorem dX1_reason_30 : decode cX1_reason 30 = .ok (.iconst 1, 1) := by decide +kernel
theorem dX1_reason_31 : decode cX1_reason 31 = .ok (.ireturn, 1) := by decide +kernel
theorem dX1_reason_32 : decode cX1_reason 32 = .ok (.iinc 2 1, 3) := by decide +kernel
theorem dX1_reason_35 : decode cX1_reason 35 = .ok (.goto (-30), 3) := by decide +kernel
theorem dX1_reason_38 : decode cX1_reason 38 = .ok (.aload_n 1, 1) := by decide +kernel
theorem dX1_reason_39 : decode cX1_reason 39 = .ok (.getfield 84, 3) := by decide +kernel
theorem dX1_reason_42 : decode cX1_reason 42 = .ok (.invokestatic 97, 3) := by decide +kernel
theorem dX1_reason_45 : decode cX1_reason 45 = .ok (.iconst 4, 1) := by decide +kernel
theorem dX1_reason_46 : decode cX1_reason 46 = .ok (.if_icmp .gt 14, 3) := by decide +kernel
theorem dX1_reason_49 : decode cX1_reason 49 = .ok (.aload_n 1, 1) := by decide +kernel
theorem dX1_reason_50 : decode cX1_reason 50 = .ok (.getfield 77, 3) := by decide +kernel
theorem dX1_reason_53 : decode cX1_reason 53 = .ok (.invokestatic 97, 3) := by decide +kernel
theorem dX1_reason_56 : decode cX1_reason 56 = .ok (.iconst 3, 1) := by decide +kernel
theorem dX1_reason_57 : decode cX1_reason 57 = .ok (.if_icmp .le 5, 3) := by decide +kernel
theorem dX1_reason_60 : decode cX1_reason 60 = .ok (.iconst 2, 1) := by decide +kernel
theorem dX1_reason_61 : decode cX1_reason 61 = .ok (.ireturn, 1) := by decide +kernel
theorem dX1_reason_62 : decode cX1_reason 62 = .ok (.aload_n 1, 1) := by decide +kernel
theorem dX1_reason_63 : decode cX1_reason 63 = .ok (.getfield 84, 3) := by decide +kernel
theorem dX1_reason_66 : decode cX1_reason 66 = .ok (.aload_n 0, 1) := by decide +kernel
theorem dX1_reason_67 : decode cX1_reason 67 = .ok (.getfield 15, 3) := by decide +kernel
theorem dX1_reason_70 : decode cX1_reason 70 = .ok (.aload_n 1, 1) := by decide +kernel
theorem dX1_reason_71 : decode cX1_reason 71 = .ok (.getfield 52, 3) := by decide +kernel
theorem dX1_reason_74 : decode cX1_reason 74 = .ok (.iaload, 1) := by decide +kernel
theorem dX1_reason_75 : decode cX1_reason 75 = .ok (.iconst (-1), 1) := by decide +kernel
theorem dX1_reason_76 : decode cX1_reason 76 = .ok (.ixor, 1) := by decide +kernel
theorem dX1_reason_77 : decode cX1_reason 77 = .ok (.iand, 1) := by decide +kernel
theorem dX1_reason_78 : decode cX1_reason 78 = .ok (.ifCond .eq 7, 3) := by decide +kernel
theorem dX1_reason_81 : decode cX1_reason 81 = .ok (.iconst 3, 1) := by decide +kernel
theorem dX1_reason_82 : decode cX1_reason 82 = .ok (.goto 4, 3) := by decide +kernel
theorem dX1_reason_85 : decode cX1_reason 85 = .ok (.iconst 0, 1) := by decide +kernel
theorem dX1_reason_86 : decode cX1_reason 86 = .ok (.ireturn, 1) := by decide +kernel
set_option maxHeartbeats 4000000 in
set_option maxRecDepth 10000 in
theorem vX1_reason_0 {l : Launch} {M : sl_M} {Q : sl_R} {o1 : Nat} (ho1 : sl_cls o1 = 6) (H : sl_RM M → sl_At l mX1_reason 5 [(0, vR 6 0), (1, vR o1 0), (2, vI (M o1 0 0))] [] M Q) : sl_At l mX1_reason 0 [(0, vR 6 0), (1, vR o1 0)] [] M Q := by
  refine sl_At.in (fun hM hls => ?_)
  have H := H hM
  refine r_aload_n (k := 1) rfl rfl dX1_reason_0 ?_
  refine r_gI (k := 0) (kz := 0) rfl ckX6 ho1 rfl (by decide) rfl rfl fl_X1_52 dX1_reason_1 ?_
  refine r_istore_n (ls' := [(2, vI (M o1 0 0)), (0, vR 6 0), (1, vR o1 0)]) (hM _ _ _) rfl (by decide) rfl dX1_reason_4 ?_
  exact sl_At.sub [1, 2, 0] rfl H
set_option maxHeartbeats 4000000 in
set_option maxRecDepth 10000 in
theorem vX1_reason_5 {l : Launch} {M : sl_M} {Q : sl_R} {o1 : Nat} {x2 : Int} (ho1 : sl_cls o1 = 6) (H : sl_RM M → sl_rg x2 → ((M o1 0 2 < x2) → sl_RI l mJ6_bitCount_0f7a4 [vI (M o1 0 4)] M (fun y3 M2 => ((4 < y3) → Q (some (vI 2)) M2) ∧ ((¬ (4 < y3)) → sl_RI l mJ6_bitCount_0f7a4 [vI (M2 o1 0 5)] M2 (fun y6 M5 => ((y6 ≤ 3) → (0 ≤ M5 o1 0 0 ∧ M5 o1 0 0 < 40) ∧ Q (some (vI (if iand (M5 o1 0 4) (ixor (M5 6 4 (M5 o1 0 0)) (-1)) = 0 then 0 else 3))) M5) ∧ ((¬ (y6 ≤ 3)) → Q (some (vI 2)) M5))))) ∧ ((¬ (M o1 0 2 < x2)) → (∃ q10 : Nat, (M 6 0 0 = (q10 : Int) + 1 ∧ sl_cls q10 = 7) ∧ (0 ≤ x2 ∧ x2 < 40) ∧ ((M (q10 + 10) 1 x2 ≠ 7) → (sl_rg (x2 + 1)) ∧ sl_At l mX1_reason 5 [(0, vR 6 0), (1, vR o1 0), (2, vI (x2 + 1))] [] M Q) ∧ ((¬ (M (q10 + 10) 1 x2 ≠ 7)) → Q (some (vI 1)) M)))) : sl_At l mX1_reason 5 [(0, vR 6 0), (1, vR o1 0), (2, vI x2)] [] M Q := by
  refine sl_At.in (fun hM hls => ?_)
  have g2 : sl_rg x2 := hls _ (List.mem_of_getElem? (i := 2) rfl)
  have H := H hM g2
  refine r_iload_n (k := 2) rfl rfl dX1_reason_5 ?_
  refine r_aload_n (k := 1) rfl rfl dX1_reason_6 ?_
  refine r_gI (k := 2) (kz := 2) rfl ckX6 ho1 rfl (by decide) rfl rfl fl_X1_63 dX1_reason_7 ?_
  refine r_icmp_gt (tgt := 38) g2 (hM _ _ _) dX1_reason_10 (by decide) (fun h1 => ?_) (fun h1 => ?_)
  · have H := H.1 h1
    refine r_aload_n (k := 1) rfl rfl dX1_reason_38 ?_
    refine r_gI (k := 4) (kz := 4) rfl ckX6 ho1 rfl (by decide) rfl rfl fl_X1_84 dX1_reason_39 ?_
    refine r_callS (g := mJ6_bitCount_0f7a4) rfl mkJ6_bitCount_0f7a4 msJ6_bitCount_0f7a4 ml_X1_97 ⟨by decide, by decide⟩ rfl (Nat.le_of_ble_eq_true rfl) rfl (ok_i (hM _ _ _) ok_n) dX1_reason_42 (sl_afterI (sl_RI.mono (fun y3 M2 gy3 hM2 H => ?_) H))
    refine r_iconst dX1_reason_45 ?_
    refine r_icmp_gt (tgt := 60) gy3 ⟨by decide, by decide⟩ dX1_reason_46 (by decide) (fun h4 => ?_) (fun h4 => ?_)
    · have H := H.1 h4
      refine r_iconst dX1_reason_60 ?_
      refine r_iret rfl ⟨by decide, by decide⟩ dX1_reason_61 ?_
      exact H
    · have H := H.2 h4
      refine r_aload_n (k := 1) rfl rfl dX1_reason_49 ?_
      refine r_gI (k := 5) (kz := 5) rfl ckX6 ho1 rfl (by decide) rfl rfl fl_X1_77 dX1_reason_50 ?_
      refine r_callS (g := mJ6_bitCount_0f7a4) rfl mkJ6_bitCount_0f7a4 msJ6_bitCount_0f7a4 ml_X1_97 ⟨by decide, by decide⟩ rfl (Nat.le_of_ble_eq_true rfl) rfl (ok_i (hM2 _ _ _) ok_n) dX1_reason_53 (sl_afterI (sl_RI.mono (fun y6 M5 gy6 hM5 H => ?_) H))
      refine r_iconst dX1_reason_56 ?_
      refine r_icmp_le (tgt := 62) gy6 ⟨by decide, by decide⟩ dX1_reason_57 (by decide) (fun h7 => ?_) (fun h7 => ?_)
      · have H := H.1 h7
        refine r_aload_n (k := 1) rfl rfl dX1_reason_62 ?_
        refine r_gI (k := 4) (kz := 4) rfl ckX6 ho1 rfl (by decide) rfl rfl fl_X1_84 dX1_reason_63 ?_
        refine r_aload_n (k := 0) rfl rfl dX1_reason_66 ?_
        refine r_getR (k := 3) (o' := 6) (i' := 4) ckX1 rfl rfl (by decide) rfl rfl rfl fl_X1_15 dX1_reason_67 ?_
        refine r_aload_n (k := 1) rfl rfl dX1_reason_70 ?_
        refine r_gI (k := 0) (kz := 0) rfl ckX6 ho1 rfl (by decide) rfl rfl fl_X1_52 dX1_reason_71 ?_
        obtain ⟨c8, H⟩ := H
        refine r_iald rfl rfl rfl c8 dX1_reason_74 ?_
        refine r_iconst dX1_reason_75 ?_
        refine r_ixor dX1_reason_76 ?_
        refine r_iand dX1_reason_77 ?_
        have J : sl_At l mX1_reason 86 [(0, vR 6 0), (1, vR o1 0), (2, vI x2)] [vI (if iand (M5 o1 0 4) (ixor (M5 6 4 (M5 o1 0 0)) (-1)) = 0 then 0 else 3)] M5 Q := by
          refine r_iret rfl (sl_rgite ⟨by decide, by decide⟩ ⟨by decide, by decide⟩) dX1_reason_86 ?_
          exact H
        refine r_if_eq (tgt := 85) (rg_iand _ _) dX1_reason_78 (by decide) (fun h9 => ?_) (fun h9 => ?_)
        · refine r_iconst dX1_reason_85 ?_
          rw [if_pos h9] at J
          exact J
        · refine r_iconst dX1_reason_81 ?_
          refine r_goto (tgt := 86) dX1_reason_82 (by decide) ?_
          rw [if_neg h9] at J
          exact J
      · have H := H.2 h7
        refine r_iconst dX1_reason_60 ?_
        refine r_iret rfl ⟨by decide, by decide⟩ dX1_reason_61 ?_
        exact H
  · have H := H.2 h1
    refine r_aload_n (k := 0) rfl rfl dX1_reason_13 ?_
    obtain ⟨q10, ⟨wq10, zq10⟩, H⟩ := H
    refine r_getS (hw := rfl) wq10 fl_X1_28 dX1_reason_14 ?_
    refine r_getR (k := 0) (o' := q10 + 10) (i' := 0) ckX7 zq10 rfl (by decide) rfl rfl rfl fl_X1_32 dX1_reason_17 ?_
    refine r_getR (k := 0) (o' := q10 + 10) (i' := 1) ckX0 (cl_prog zq10) rfl (by decide) rfl rfl rfl fl_X1_94 dX1_reason_20 ?_
    refine r_iload_n (k := 2) rfl rfl dX1_reason_23 ?_
    obtain ⟨c11, H⟩ := H
    refine r_iald (cl_prog zq10) rfl rfl c11 dX1_reason_24 ?_
    refine r_bipush dX1_reason_25 (by decide) ?_
    refine r_icmp_ne (tgt := 32) (hM _ _ _) ⟨by decide, by decide⟩ dX1_reason_27 (by decide) (fun h12 => ?_) (fun h12 => ?_)
    · have H := H.1 h12
      obtain ⟨c13, H⟩ := H
      refine r_iinc (k := 2) (ls' := [(2, vI (x2 + 1)), (0, vR 6 0), (1, vR o1 0)]) rfl c13 (by decide) rfl dX1_reason_32 ?_
      refine r_goto (tgt := 5) dX1_reason_35 (by decide) ?_
      exact sl_At.sub [1, 2, 0] rfl H
    · have H := H.2 h12
      refine r_iconst dX1_reason_30 ?_
      refine r_iret rfl ⟨by decide, by decide⟩ dX1_reason_31 ?_
      exact H
theorem eX1_reason {l : Launch} {M : sl_M} {Q : sl_R} {o1 : Nat} (k : sl_At l mX1_reason 0 [(0, vR 6 0), (1, vR o1 0)] [] M Q) : sl_Runs l mX1_reason [vR 6 0, vR o1 0] M Q := sl_Runs.of (ls := [(0, vR 6 0), (1, vR o1 0)]) rfl rfl (fun _ => rfl) (fun _ => Nat.le_of_ble_eq_true rfl) rfl (k)
theorem dX1_findSet_0 : decode cX1_findSet 0 = .ok (.iload_n 1, 1) := by decide +kernel
theorem dX1_findSet_1 : decode cX1_findSet 1 = .ok (.istore 5, 2) := by decide +kernel
theorem dX1_findSet_3 : decode cX1_findSet 3 = .ok (.iload 5, 2) := by decide +kernel
theorem dX1_findSet_5 : decode cX1_findSet 5 = .ok (.iload_n 2, 1) := by decide +kernel
theorem dX1_findSet_6 : decode cX1_findSet 6 = .ok (.if_icmp .gt 15, 3) := by decide +kernel
theorem dX1_findSet_9 : decode cX1_findSet 9 = .ok (.aload 4, 2) := by decide +kernel
theorem dX1_findSet_11 : decode cX1_findSet 11 = .ok (.iload 5, 2) := by decide +kernel
theorem dX1_findSet_13 : decode cX1_findSet 13 = .ok (.iconst (-1), 1) := by decide +kernel
theorem dX1_findSet_14 : decode cX1_findSet 14 = .ok (.iastore, 1) := by decide +kernel
theorem dX1_findSet_15 : decode cX1_findSet 15 = .ok (.iinc 5 1, 3) := by decide +kernel
theorem dX1_findSet_18 : decode cX1_findSet 18 = .ok (.goto (-15), 3) := by decide +kernel
theorem dX1_findSet_21 : decode cX1_findSet 21 = .ok (.iconst 1, 1) := by decide +kernel
theorem dX1_findSet_22 : decode cX1_findSet 22 = .ok (.istore 5, 2) := by decide +kernel
theorem dX1_findSet_24 : decode cX1_findSet 24 = .ok (.iload 5, 2) := by decide +kernel
theorem dX1_findSet_26 : decode cX1_findSet 26 = .ok (.bipush 8, 2) := by decide +kernel
theorem dX1_findSet_28 : decode cX1_findSet 28 = .ok (.if_icmp .gt 20, 3) := by decide +kernel
theorem dX1_findSet_31 : decode cX1_findSet 31 = .ok (.aload_n 0, 1) := by decide +kernel
theorem dX1_findSet_32 : decode cX1_findSet 32 = .ok (.getfield 21, 3) := by decide +kernel
theorem dX1_findSet_35 : decode cX1_findSet 35 = .ok (.iload 5, 2) := by decide +kernel
theorem dX1_findSet_37 : decode cX1_findSet 37 = .ok (.iconst (-1), 1) := by decide +kernel
theorem dX1_findSet_38 : decode cX1_findSet 38 = .ok (.iastore, 1) := by decide +kernel
theorem dX1_findSet_39 : decode cX1_findSet 39 = .ok (.iload 5, 2) := by decide +kernel
theorem dX1_findSet_41 : decode cX1_findSet 41 = .ok (.iconst 2, 1) := by decide +kernel
theorem dX1_findSet_42 : decode cX1_findSet 42 = .ok (.imul, 1) := by decide +kernel
theorem dX1_findSet_43 : decode cX1_findSet 43 = .ok (.istore 5, 2) := by decide +kernel
theorem dX1_findSet_45 : decode cX1_findSet 45 = .ok (.goto (-21), 3) := by decide +kernel
theorem dX1_findSet_48 : decode cX1_findSet 48 = .ok (.aload 4, 2) := by decide +kernel
theorem dX1_findSet_50 : decode cX1_findSet 50 = .ok (.iload_n 1, 1) := by decide +kernel
theorem dX1_findSet_51 : decode cX1_findSet 51 = .ok (.iload_n 3, 1) := by decide +kernel
theorem dX1_findSet_52 : decode cX1_findSet 52 = .ok (.iastore, 1) := by decide +kernel
theorem dX1_findSet_53 : decode cX1_findSet 53 = .ok (.iload_n 1, 1) := by decide +kernel
theorem dX1_findSet_54 : decode cX1_findSet 54 = .ok (.istore 5, 2) := by decide +kernel
theorem dX1_findSet_56 : decode cX1_findSet 56 = .ok (.iload 5, 2) := by decide +kernel
theorem dX1_findSet_58 : decode cX1_findSet 58 = .ok (.iload_n 2, 1) := by decide +kernel
theorem dX1_findSet_59 : decode cX1_findSet 59 = .ok (.if_icmp .gt 28, 3) := by decide +kernel
theorem dX1_findSet_62 : decode cX1_findSet 62 = .ok (.aload 4, 2) := by decide +kernel
theorem dX1_findSet_64 : decode cX1_findSet 64 = .ok (.iload 5, 2) := by decide +kernel
theorem dX1_findSet_66 : decode cX1_findSet 66 = .ok (.iaload, 1) := by decide +kernel
theorem dX1_findSet_67 : decode cX1_findSet 67 = .ok (.iconst (-1), 1) := by decide +kernel
theorem dX1_findSet_68 : decode cX1_findSet 68 = .ok (.if_icmp .eq 13, 3) := by decide +kernel
theorem dX1_findSet_71 : decode cX1_findSet 71 = .ok (.aload_n 0, 1) := by decide +kernel
theorem dX1_findSet_72 : decode cX1_findSet 72 = .ok (.iload 5, 2) := by decide +kernel
theorem dX1_findSet_74 : decode cX1_findSet 74 = .ok (.iload_n 1, 1) := by decide +kernel
theorem dX1_findSet_75 : decode cX1_findSet 75 = .ok (.iload_n 2, 1) := by decide +kernel
theorem dX1_findSet_76 : decode cX1_findSet 76 = .ok (.aload 4, 2) := by decide +kernel
theorem dX1_findSet_78 : decode cX1_findSet 78 = .ok (.invokevirtual 102, 3) := by decide +kernel
theorem dX1_findSet_81 : decode cX1_findSet 81 = .ok (.iinc 5 1, 3) := by decide +kernel
theorem dX1_findSet_84 : decode cX1_findSet 84 = .ok (.goto (-28), 3) := by decide +kernel
theorem dX1_findSet_87 : decode cX1_findSet 87 = .ok (.return_, 1) := by decide +kernel
set_option maxHeartbeats 4000000 in
set_option maxRecDepth 10000 in
theorem vX1_findSet_0 {l : Launch} {M : sl_M} {Q : sl_R} {x1 x2 x3 : Int} {a4 : Nat} (ha4 : sl_ar 1 a4 = some (0, 40)) (H : sl_RM M → sl_rg x1 → sl_rg x2 → sl_rg x3 → sl_At l mX1_findSet 3 [(0, vR 6 0), (1, vI x1), (2, vI x2), (3, vI x3), (4, vR 6 a4), (5, vI x1)] [] M Q) : sl_At l mX1_findSet 0 [(0, vR 6 0), (1, vI x1), (2, vI x2), (3, vI x3), (4, vR 6 a4)] [] M Q := by
  refine sl_At.in (fun hM hls => ?_)
  have g1 : sl_rg x1 := hls _ (List.mem_of_getElem? (i := 1) rfl)
  have g2 : sl_rg x2 := hls _ (List.mem_of_getElem? (i := 2) rfl)
  have g3 : sl_rg x3 := hls _ (List.mem_of_getElem? (i := 3) rfl)
  have H := H hM g1 g2 g3
  refine r_iload_n (k := 1) rfl rfl dX1_findSet_0 ?_
  refine r_istore (ls' := [(5, vI x1), (0, vR 6 0), (1, vI x1), (2, vI x2), (3, vI x3), (4, vR 6 a4)]) g1 (by decide) rfl dX1_findSet_1 ?_
  exact sl_At.sub [1, 2, 3, 4, 5, 0] rfl H
set_option maxHeartbeats 4000000 in
set_option maxRecDepth 10000 in
theorem vX1_findSet_3 {l : Launch} {M : sl_M} {Q : sl_R} {x1 x2 x3 x5 : Int} {a4 : Nat} (ha4 : sl_ar 1 a4 = some (0, 40)) (H : sl_RM M → sl_rg x1 → sl_rg x2 → sl_rg x3 → sl_rg x5 → ((x2 < x5) → sl_At l mX1_findSet 24 [(0, vR 6 0), (1, vI x1), (2, vI x2), (3, vI x3), (4, vR 6 a4), (5, vI 1)] [] M Q) ∧ ((¬ (x2 < x5)) → (0 ≤ x5 ∧ x5 < 40) ∧ (∀ M3, M3 = sl_wr M 6 a4 x5 (-1) → (sl_rg (x5 + 1)) ∧ sl_At l mX1_findSet 3 [(0, vR 6 0), (1, vI x1), (2, vI x2), (3, vI x3), (4, vR 6 a4), (5, vI (x5 + 1))] [] M3 Q))) : sl_At l mX1_findSet 3 [(0, vR 6 0), (1, vI x1), (2, vI x2), (3, vI x3), (4, vR 6 a4), (5, vI x5)] [] M Q := by
  refine sl_At.in (fun hM hls => ?_)
  have g1 : sl_rg x1 := hls _ (List.mem_of_getElem? (i := 1) rfl)
  have g2 : sl_rg x2 := hls _ (List.mem_of_getElem? (i := 2) rfl)
  have g3 : sl_rg x3 := hls _ (List.mem_of_getElem? (i := 3) rfl)
  have g5 : sl_rg x5 := hls _ (List.mem_of_getElem? (i := 5) rfl)
  have H := H hM g1 g2 g3 g5
  refine r_iload (k := 5) rfl dX1_findSet_3 ?_
  refine r_iload_n (k := 2) rfl rfl dX1_findSet_5 ?_
  refine r_icmp_gt (tgt := 21) g5 g2 dX1_findSet_6 (by decide) (fun h1 => ?_) (fun h1 => ?_)
  · have H := H.1 h1
    refine r_iconst dX1_findSet_21 ?_
    refine r_istore (ls' := [(5, vI 1), (0, vR 6 0), (1, vI x1), (2, vI x2), (3, vI x3), (4, vR 6 a4)]) ⟨by decide, by decide⟩ (by decide) rfl dX1_findSet_22 ?_
    exact sl_At.sub [1, 2, 3, 4, 5, 0] rfl H
  · have H := H.2 h1
    refine r_aload (k := 4) rfl dX1_findSet_9 ?_
    refine r_iload (k := 5) rfl dX1_findSet_11 ?_
    refine r_iconst dX1_findSet_13 ?_
    obtain ⟨c2, H⟩ := H
    refine r_iast rfl ha4 rfl c2 ⟨by decide, by decide⟩ dX1_findSet_14 ?_
    refine r_mm (fun M3 e3 => ?_)
    have H := H M3 e3
    have hM3 : sl_RM M3 := by rw [e3]; exact sl_wr_RM hM ⟨by decide, by decide⟩
    obtain ⟨c4, H⟩ := H
    refine r_iinc (k := 5) (ls' := [(5, vI (x5 + 1)), (0, vR 6 0), (1, vI x1), (2, vI x2), (3, vI x3), (4, vR 6 a4)]) rfl c4 (by decide) rfl dX1_findSet_15 ?_
    refine r_goto (tgt := 3) dX1_findSet_18 (by decide) ?_
    exact sl_At.sub [1, 2, 3, 4, 5, 0] rfl H
set_option maxHeartbeats 4000000 in
set_option maxRecDepth 10000 in
theorem vX1_findSet_24 {l : Launch} {M : sl_M} {Q : sl_R} {x1 x2 x3 x5 : Int} {a4 : Nat} (ha4 : sl_ar 1 a4 = some (0, 40)) (H : sl_RM M → sl_rg x1 → sl_rg x2 → sl_rg x3 → sl_rg x5 → ((8 < x5) → (0 ≤ x1 ∧ x1 < 40) ∧ (∀ M3, M3 = sl_wr M 6 a4 x1 x3 → sl_At l mX1_findSet 56 [(0, vR 6 0), (1, vI x1), (2, vI x2), (4, vR 6 a4), (5, vI x1)] [] M3 Q)) ∧ ((¬ (8 < x5)) → (0 ≤ x5 ∧ x5 < 9) ∧ (∀ M5, M5 = sl_wr M 6 6 x5 (-1) → (sl_rg (x5 * 2)) ∧ (∀ y7 : Int, y7 = x5 * 2 → sl_At l mX1_findSet 24 [(0, vR 6 0), (1, vI x1), (2, vI x2), (3, vI x3), (4, vR 6 a4), (5, vI y7)] [] M5 Q)))) : sl_At l mX1_findSet 24 [(0, vR 6 0), (1, vI x1), (2, vI x2), (3, vI x3), (4, vR 6 a4), (5, vI x5)] [] M Q := by
  refine sl_At.in (fun hM hls => ?_)
  have g1 : sl_rg x1 := hls _ (List.mem_of_getElem? (i := 1) rfl)
  have g2 : sl_rg x2 := hls _ (List.mem_of_getElem? (i := 2) rfl)
  have g3 : sl_rg x3 := hls _ (List.mem_of_getElem? (i := 3) rfl)
  have g5 : sl_rg x5 := hls _ (List.mem_of_getElem? (i := 5) rfl)
  have H := H hM g1 g2 g3 g5
  refine r_iload (k := 5) rfl dX1_findSet_24 ?_
  refine r_bipush dX1_findSet_26 (by decide) ?_
  refine r_icmp_gt (tgt := 48) g5 ⟨by decide, by decide⟩ dX1_findSet_28 (by decide) (fun h1 => ?_) (fun h1 => ?_)
  · have H := H.1 h1
    refine r_aload (k := 4) rfl dX1_findSet_48 ?_
    refine r_iload_n (k := 1) rfl rfl dX1_findSet_50 ?_
    refine r_iload_n (k := 3) rfl rfl dX1_findSet_51 ?_
    obtain ⟨c2, H⟩ := H
    refine r_iast rfl ha4 rfl c2 g3 dX1_findSet_52 ?_
    refine r_mm (fun M3 e3 => ?_)
    have H := H M3 e3
    have hM3 : sl_RM M3 := by rw [e3]; exact sl_wr_RM hM g3
    refine r_iload_n (k := 1) rfl rfl dX1_findSet_53 ?_
    refine r_istore (ls' := [(5, vI x1), (0, vR 6 0), (1, vI x1), (2, vI x2), (3, vI x3), (4, vR 6 a4)]) g1 (by decide) rfl dX1_findSet_54 ?_
    exact sl_At.sub [1, 2, 3, 5, 0] rfl H
  · have H := H.2 h1
    refine r_aload_n (k := 0) rfl rfl dX1_findSet_31 ?_
    refine r_getR (k := 5) (o' := 6) (i' := 6) ckX1 rfl rfl (by decide) rfl rfl rfl fl_X1_21 dX1_findSet_32 ?_
    refine r_iload (k := 5) rfl dX1_findSet_35 ?_
    refine r_iconst dX1_findSet_37 ?_
    obtain ⟨c4, H⟩ := H
    refine r_iast rfl rfl rfl c4 ⟨by decide, by decide⟩ dX1_findSet_38 ?_
    refine r_mm (fun M5 e5 => ?_)
    have H := H M5 e5
    have hM5 : sl_RM M5 := by rw [e5]; exact sl_wr_RM hM ⟨by decide, by decide⟩
    refine r_iload (k := 5) rfl dX1_findSet_39 ?_
    refine r_iconst dX1_findSet_41 ?_
    refine r_imul dX1_findSet_42 ?_
    obtain ⟨c6, H⟩ := H
    refine r_nm (fun y7 fy7 => ?_)
    have H := H y7 fy7
    have gy7 : sl_rg y7 := by rw [fy7]; exact c6
    refine r_istore (ls' := [(5, vI y7), (0, vR 6 0), (1, vI x1), (2, vI x2), (3, vI x3), (4, vR 6 a4)]) gy7 (by decide) rfl dX1_findSet_43 ?_
    refine r_goto (tgt := 24) dX1_findSet_45 (by decide) ?_
    exact sl_At.sub [1, 2, 3, 4, 5, 0] rfl H
set_option maxHeartbeats 4000000 in
set_option maxRecDepth 10000 in
theorem vX1_findSet_56 {l : Launch} {M : sl_M} {Q : sl_R} {x1 x2 x5 : Int} {a4 : Nat} (ha4 : sl_ar 1 a4 = some (0, 40)) (H : sl_RM M → sl_rg x1 → sl_rg x2 → sl_rg x5 → ((x2 < x5) → Q none M) ∧ ((¬ (x2 < x5)) → (0 ≤ x5 ∧ x5 < 40) ∧ ((M 6 a4 x5 = (-1)) → (sl_rg (x5 + 1)) ∧ sl_At l mX1_findSet 56 [(0, vR 6 0), (1, vI x1), (2, vI x2), (4, vR 6 a4), (5, vI (x5 + 1))] [] M Q) ∧ ((¬ (M 6 a4 x5 = (-1))) → sl_RV l mX1_passOn [vR 6 0, vI x5, vI x1, vI x2, vR 6 a4] M (fun M5 => (sl_rg (x5 + 1)) ∧ sl_At l mX1_findSet 56 [(0, vR 6 0), (1, vI x1), (2, vI x2), (4, vR 6 a4), (5, vI (x5 + 1))] [] M5 Q)))) : sl_At l mX1_findSet 56 [(0, vR 6 0), (1, vI x1), (2, vI x2), (4, vR 6 a4), (5, vI x5)] [] M Q := by
  refine sl_At.in (fun hM hls => ?_)
  have g1 : sl_rg x1 := hls _ (List.mem_of_getElem? (i := 1) rfl)
  have g2 : sl_rg x2 := hls _ (List.mem_of_getElem? (i := 2) rfl)
  have g5 : sl_rg x5 := hls _ (List.mem_of_getElem? (i := 4) rfl)
  have H := H hM g1 g2 g5
  refine r_iload (k := 4) rfl dX1_findSet_56 ?_
  refine r_iload_n (k := 2) rfl rfl dX1_findSet_58 ?_
  refine r_icmp_gt (tgt := 87) g5 g2 dX1_findSet_59 (by decide) (fun h1 => ?_) (fun h1 => ?_)
  · have H := H.1 h1
    refine r_vret rfl dX1_findSet_87 ?_
    exact H
  · have H := H.2 h1
    refine r_aload (k := 3) rfl dX1_findSet_62 ?_
    refine r_iload (k := 4) rfl dX1_findSet_64 ?_
    obtain ⟨c2, H⟩ := H
    refine r_iald rfl ha4 rfl c2 dX1_findSet_66 ?_
    refine r_iconst dX1_findSet_67 ?_
    refine r_icmp_eq (tgt := 81) (hM _ _ _) ⟨by decide, by decide⟩ dX1_findSet_68 (by decide) (fun h3 => ?_) (fun h3 => ?_)
    · have H := H.1 h3
      obtain ⟨c4, H⟩ := H
      refine r_iinc (k := 4) (ls' := [(5, vI (x5 + 1)), (0, vR 6 0), (1, vI x1), (2, vI x2), (4, vR 6 a4)]) rfl c4 (by decide) rfl dX1_findSet_81 ?_
      refine r_goto (tgt := 56) dX1_findSet_84 (by decide) ?_
      exact sl_At.sub [1, 2, 3, 4, 0] rfl H
    · have H := H.2 h3
      refine r_aload_n (k := 0) rfl rfl dX1_findSet_71 ?_
      refine r_iload (k := 4) rfl dX1_findSet_72 ?_
      refine r_iload_n (k := 1) rfl rfl dX1_findSet_74 ?_
      refine r_iload_n (k := 2) rfl rfl dX1_findSet_75 ?_
      refine r_aload (k := 3) rfl dX1_findSet_76 ?_
      refine r_callV (g := mX1_passOn) ckX1 rfl rfl rfl rfl mkX1_passOn mvX1_passOn ml_X1_102 ⟨by decide, by decide⟩ rfl (Nat.le_of_ble_eq_true rfl) rfl (ok_i g5 (ok_i g1 (ok_i g2 (ok_r ok_n)))) dX1_findSet_78 (sl_afterV (sl_RV.mono (fun M5 hM5 H => ?_) H))
      obtain ⟨c6, H⟩ := H
      refine r_iinc (k := 4) (ls' := [(5, vI (x5 + 1)), (0, vR 6 0), (1, vI x1), (2, vI x2), (4, vR 6 a4)]) rfl c6 (by decide) rfl dX1_findSet_81 ?_
      refine r_goto (tgt := 56) dX1_findSet_84 (by decide) ?_
      exact sl_At.sub [1, 2, 3, 4, 0] rfl H
theorem eX1_findSet {l : Launch} {M : sl_M} {Q : sl_R} {x1 x2 x3 : Int} {a4 : Nat} (k : sl_At l mX1_findSet 0 [(0, vR 6 0), (1, vI x1), (2, vI x2), (3, vI x3), (4, vR 6 a4)] [] M Q) : sl_Runs l mX1_findSet [vR 6 0, vI x1, vI x2, vI x3, vR 6 a4] M Q := sl_Runs.of (ls := [(0, vR 6 0), (1, vI x1), (2, vI x2), (3, vI x3), (4, vR 6 a4)]) rfl rfl (fun _ => rfl) (fun _ => Nat.le_of_ble_eq_true rfl) rfl (k)
theorem dX1_passOn_0 : decode cX1_passOn 0 = .ok (.aload_n 0, 1) := by decide +kernel
theorem dX1_passOn_1 : decode cX1_passOn 1 = .ok (.getfield 28, 3) := by decide +kernel
theorem dX1_passOn_4 : decode cX1_passOn 4 = .ok (.getfield 32, 3) := by decide +kernel
theorem dX1_passOn_7 : decode cX1_passOn 7 = .ok (.astore 5, 2) := by decide +kernel
theorem dX1_passOn_9 : decode cX1_passOn 9 = .ok (.aload 5, 2) := by decide +kernel
theorem dX1_passOn_11 : decode cX1_passOn 11 = .ok (.getfield 94, 3) := by decide +kernel
theorem dX1_passOn_14 : decode cX1_passOn 14 = .ok (.iload_n 1, 1) := by decide +kernel
theorem dX1_passOn_15 : decode cX1_passOn 15 = .ok (.iaload, 1) := by decide +kernel
theorem dX1_passOn_16 : decode cX1_passOn 16 = .ok (.iconst 5, 1) := by decide +kernel
theorem dX1_passOn_17 : decode cX1_passOn 17 = .ok (.if_icmp .eq 15, 3) := by decide +kernel
theorem dX1_passOn_20 : decode cX1_passOn 20 = .ok (.aload 5, 2) := by decide +kernel
theorem dX1_passOn_22 : decode cX1_passOn 22 = .ok (.getfield 94, 3) := by decide +kernel
theorem dX1_passOn_25 : decode cX1_passOn 25 = .ok (.iload_n 1, 1) := by decide +kernel
theorem dX1_passOn_26 : decode cX1_passOn 26 = .ok (.iaload, 1) := by decide +kernel
theorem dX1_passOn_27 : decode cX1_passOn 27 = .ok (.bipush 6, 2) := by decide +kernel
theorem dX1_passOn_29 : decode cX1_passOn 29 = .ok (.if_icmp .ne 42, 3) := by decide +kernel
theorem dX1_passOn_32 : decode cX1_passOn 32 = .ok (.aload_n 0, 1) := by decide +kernel
theorem dX1_passOn_33 : decode cX1_passOn 33 = .ok (.aload 5, 2) := by decide +kernel
theorem dX1_passOn_35 : decode cX1_passOn 35 = .ok (.iload_n 1, 1) := by decide +kernel
theorem dX1_passOn_36 : decode cX1_passOn 36 = .ok (.iconst 0, 1) := by decide +kernel
theorem dX1_passOn_37 : decode cX1_passOn 37 = .ok (.iload_n 2, 1) := by decide +kernel
theorem dX1_passOn_38 : decode cX1_passOn 38 = .ok (.iload_n 3, 1) := by decide +kernel
theorem dX1_passOn_39 : decode cX1_passOn 39 = .ok (.invokevirtual 105, 3) := by decide +kernel
theorem dX1_passOn_42 : decode cX1_passOn 42 = .ok (.aload 4, 2) := by decide +kernel
theorem dX1_passOn_44 : decode cX1_passOn 44 = .ok (.iload_n 1, 1) := by decide +kernel
theorem dX1_passOn_45 : decode cX1_passOn 45 = .ok (.iaload, 1) := by decide +kernel
theorem dX1_passOn_46 : decode cX1_passOn 46 = .ok (.aload 4, 2) := by decide +kernel
theorem dX1_passOn_48 : decode cX1_passOn 48 = .ok (.invokevirtual 108, 3) := by decide +kernel
theorem dX1_passOn_51 : decode cX1_passOn 51 = .ok (.aload_n 0, 1) := by decide +kernel
theorem dX1_passOn_52 : decode cX1_passOn 52 = .ok (.aload 5, 2) := by decide +kernel
theorem dX1_passOn_54 : decode cX1_passOn 54 = .ok (.iload_n 1, 1) := by decide +kernel
theorem dX1_passOn_55 : decode cX1_passOn 55 = .ok (.iconst 1, 1) := by decide +kernel
theorem dX1_passOn_56 : decode cX1_passOn 56 = .ok (.iload_n 2, 1) := by decide +kernel
theorem dX1_passOn_57 : decode cX1_passOn 57 = .ok (.iload_n 3, 1) := by decide +kernel
theorem dX1_passOn_58 : decode cX1_passOn 58 = .ok (.invokevirtual 105, 3) := by decide +kernel
theorem dX1_passOn_61 : decode cX1_passOn 61 = .ok (.aload 4, 2) := by decide +kernel
theorem dX1_passOn_63 : decode cX1_passOn 63 = .ok (.iload_n 1, 1) := by decide +kernel
theorem dX1_passOn_64 : decode cX1_passOn 64 = .ok (.iaload, 1) := by decide +kernel
theorem dX1_passOn_65 : decode cX1_passOn 65 = .ok (.aload 4, 2) := by decide +kernel
theorem dX1_passOn_67 : decode cX1_passOn 67 = .ok (.invokevirtual 108, 3) := by decide +kernel
theorem dX1_passOn_70 : decode cX1_passOn 70 = .ok (.return_, 1) := by decide +kernel
theorem dX1_passOn_71 : decode cX1_passOn 71 = .ok (.aload_n 0, 1) := by decide +kernel
theorem dX1_passOn_72 : decode cX1_passOn 72 = .ok (.getfield 28, 3) := by decide +kernel
theorem dX1_passOn_75 : decode cX1_passOn 75 = .ok (.iload_n 1, 1) := by decide +kernel
theorem dX1_passOn_76 : decode cX1_passOn 76 = .ok (.invokevirtual 111, 3) := by decide +kernel
theorem dX1_passOn_79 : decode cX1_passOn 79 = .ok (.istore 6, 2) := by decide +kernel
theorem dX1_passOn_81 : decode cX1_passOn 81 = .ok (.iconst 1, 1) := by decide +kernel
theorem dX1_passOn_82 : decode cX1_passOn 82 = .ok (.istore 7, 2) := by decide +kernel
theorem dX1_passOn_84 : decode cX1_passOn 84 = .ok (.iload 7, 2) := by decide +kernel
theorem dX1_passOn_86 : decode cX1_passOn 86 = .ok (.bipush 8, 2) := by decide +kernel
theorem dX1_passOn_88 : decode cX1_passOn 88 = .ok (.if_icmp .gt 51, 3) := by decide +kernel
theorem dX1_passOn_91 : decode cX1_passOn 91 = .ok (.iload 6, 2) := by decide +kernel
theorem dX1_passOn_93 : decode cX1_passOn 93 = .ok (.iload 7, 2) := by decide +kernel
theorem dX1_passOn_95 : decode cX1_passOn 95 = .ok (.iand, 1) := by decide +kernel
theorem dX1_passOn_96 : decode cX1_passOn 96 = .ok (.ifCond .eq 34, 3) := by decide +kernel
theorem dX1_passOn_99 : decode cX1_passOn 99 = .ok (.aload_n 0, 1) := by decide +kernel
theorem dX1_passOn_100 : decode cX1_passOn 100 = .ok (.aload 5, 2) := by decide +kernel
theorem dX1_passOn_102 : decode cX1_passOn 102 = .ok (.iload_n 1, 1) := by decide +kernel
theorem dX1_passOn_103 : decode cX1_passOn 103 = .ok (.iload 7, 2) := by decide +kernel
theorem dX1_passOn_105 : decode cX1_passOn 105 = .ok (.iload_n 2, 1) := by decide +kernel
theorem dX1_passOn_106 : decode cX1_passOn 106 = .ok (.iload_n 3, 1) := by decide +kernel
theorem dX1_passOn_107 : decode cX1_passOn 107 = .ok (.invokevirtual 73, 3) := by decide +kernel
theorem dX1_passOn_110 : decode cX1_passOn 110 = .ok (.aload 4, 2) := by decide +kernel
theorem dX1_passOn_112 : decode cX1_passOn 112 = .ok (.iload_n 1, 1) := by decide +kernel
theorem dX1_passOn_113 : decode cX1_passOn 113 = .ok (.iaload, 1) := by decide +kernel
theorem dX1_passOn_114 : decode cX1_passOn 114 = .ok (.aload_n 0, 1) := by decide +kernel
theorem dX1_passOn_115 : decode cX1_passOn 115 = .ok (.getfield 28, 3) := by decide +kernel
theorem dX1_passOn_118 : decode cX1_passOn 118 = .ok (.iload_n 1, 1) := by decide +kernel
theorem dX1_passOn_119 : decode cX1_passOn 119 = .ok (.iload 7, 2) := by decide +kernel
theorem dX1_passOn_121 : decode cX1_passOn 121 = .ok (.invokevirtual 114, 3) := by decide +kernel
theorem dX1_passOn_124 : decode cX1_passOn 124 = .ok (.ior, 1) := by decide +kernel
theorem dX1_passOn_125 : decode cX1_passOn 125 = .ok (.aload 4, 2) := by decide +kernel
theorem dX1_passOn_127 : decode cX1_passOn 127 = .ok (.invokevirtual 108, 3) := by decide +kernel
theorem dX1_passOn_130 : decode cX1_passOn 130 = .ok (.iload 7, 2) := by decide +kernel
theorem dX1_passOn_132 : decode cX1_passOn 132 = .ok (.iconst 2, 1) := by decide +kernel
theorem dX1_passOn_133 : decode cX1_passOn 133 = .ok (.imul, 1) := by decide +kernel
theorem dX1_passOn_134 : decode cX1_passOn 134 = .ok (.istore 7, 2) := by decide +kernel
theorem dX1_passOn_136 : decode cX1_passOn 136 = .ok (.goto (-52), 3) := by decide +kernel
theorem dX1_passOn_139 : decode cX1_passOn 139 = .ok (.return_, 1) := by decide +kernel
set_option maxHeartbeats 4000000 in
set_option maxRecDepth 10000 in
theorem vX1_passOn_0 {l : Launch} {M : sl_M} {Q : sl_R} {x1 x2 x3 : Int} {a4 : Nat} (ha4 : sl_ar 1 a4 = some (0, 40)) (H : sl_RM M → sl_rg x1 → sl_rg x2 → sl_rg x3 → (∃ q1 : Nat, (M 6 0 0 = (q1 : Int) + 1 ∧ sl_cls q1 = 7) ∧ (0 ≤ x1 ∧ x1 < 40) ∧ ((M (q1 + 10) 1 x1 = 5) → sl_At l mX1_passOn 32 [(0, vR 6 0), (1, vI x1), (2, vI x2), (3, vI x3), (4, vR 6 a4), (5, vR (q1 + 10) 0)] [] M Q) ∧ ((¬ (M (q1 + 10) 1 x1 = 5)) → ((M (q1 + 10) 1 x1 ≠ 6) → sl_RI l mX7_exitsOf [vR q1 0, vI x1] M (fun y6 M5 => sl_At l mX1_passOn 84 [(0, vR 6 0), (1, vI x1), (2, vI x2), (3, vI x3), (4, vR 6 a4), (5, vR (q1 + 10) 0), (6, vI y6), (7, vI 1)] [] M5 Q)) ∧ ((¬ (M (q1 + 10) 1 x1 ≠ 6)) → sl_At l mX1_passOn 32 [(0, vR 6 0), (1, vI x1), (2, vI x2), (3, vI x3), (4, vR 6 a4), (5, vR (q1 + 10) 0)] [] M Q)))) : sl_At l mX1_passOn 0 [(0, vR 6 0), (1, vI x1), (2, vI x2), (3, vI x3), (4, vR 6 a4)] [] M Q := by
  refine sl_At.in (fun hM hls => ?_)
  have g1 : sl_rg x1 := hls _ (List.mem_of_getElem? (i := 1) rfl)
  have g2 : sl_rg x2 := hls _ (List.mem_of_getElem? (i := 2) rfl)
  have g3 : sl_rg x3 := hls _ (List.mem_of_getElem? (i := 3) rfl)
  have H := H hM g1 g2 g3
  refine r_aload_n (k := 0) rfl rfl dX1_passOn_0 ?_
  obtain ⟨q1, ⟨wq1, zq1⟩, H⟩ := H
  refine r_getS (hw := rfl) wq1 fl_X1_28 dX1_passOn_1 ?_
  refine r_getR (k := 0) (o' := q1 + 10) (i' := 0) ckX7 zq1 rfl (by decide) rfl rfl rfl fl_X1_32 dX1_passOn_4 ?_
  refine r_astore (ls' := [(5, vR (q1 + 10) 0), (0, vR 6 0), (1, vI x1), (2, vI x2), (3, vI x3), (4, vR 6 a4)]) (by decide) rfl dX1_passOn_7 ?_
  refine r_aload (k := 0) rfl dX1_passOn_9 ?_
  refine r_getR (k := 0) (o' := q1 + 10) (i' := 1) ckX0 (cl_prog zq1) rfl (by decide) rfl rfl rfl fl_X1_94 dX1_passOn_11 ?_
  refine r_iload_n (k := 2) rfl rfl dX1_passOn_14 ?_
  obtain ⟨c2, H⟩ := H
  refine r_iald (cl_prog zq1) rfl rfl c2 dX1_passOn_15 ?_
  refine r_iconst dX1_passOn_16 ?_
  refine r_icmp_eq (tgt := 32) (hM _ _ _) ⟨by decide, by decide⟩ dX1_passOn_17 (by decide) (fun h3 => ?_) (fun h3 => ?_)
  · have H := H.1 h3
    exact sl_At.sub [1, 2, 3, 4, 5, 0] rfl H
  · have H := H.2 h3
    refine r_aload (k := 0) rfl dX1_passOn_20 ?_
    refine r_getR (k := 0) (o' := q1 + 10) (i' := 1) ckX0 (cl_prog zq1) rfl (by decide) rfl rfl rfl fl_X1_94 dX1_passOn_22 ?_
    refine r_iload_n (k := 2) rfl rfl dX1_passOn_25 ?_
    refine r_iald (cl_prog zq1) rfl rfl c2 dX1_passOn_26 ?_
    refine r_bipush dX1_passOn_27 (by decide) ?_
    refine r_icmp_ne (tgt := 71) (hM _ _ _) ⟨by decide, by decide⟩ dX1_passOn_29 (by decide) (fun h4 => ?_) (fun h4 => ?_)
    · have H := H.1 h4
      refine r_aload_n (k := 1) rfl rfl dX1_passOn_71 ?_
      refine r_getS (hw := rfl) wq1 fl_X1_28 dX1_passOn_72 ?_
      refine r_iload_n (k := 2) rfl rfl dX1_passOn_75 ?_
      refine r_callV (g := mX7_exitsOf) ckX7 zq1 rfl rfl rfl mkX7_exitsOf mvX7_exitsOf ml_X1_111 ⟨by decide, by decide⟩ rfl (Nat.le_of_ble_eq_true rfl) rfl (ok_i g1 ok_n) dX1_passOn_76 (sl_afterI (sl_RI.mono (fun y6 M5 gy6 hM5 H => ?_) H))
      refine r_istore (ls' := [(6, vI y6), (5, vR (q1 + 10) 0), (0, vR 6 0), (1, vI x1), (2, vI x2), (3, vI x3), (4, vR 6 a4)]) gy6 (by decide) rfl dX1_passOn_79 ?_
      refine r_iconst dX1_passOn_81 ?_
      refine r_istore (ls' := [(7, vI 1), (6, vI y6), (5, vR (q1 + 10) 0), (0, vR 6 0), (1, vI x1), (2, vI x2), (3, vI x3), (4, vR 6 a4)]) ⟨by decide, by decide⟩ (by decide) rfl dX1_passOn_82 ?_
      exact sl_At.sub [3, 4, 5, 6, 7, 2, 1, 0] rfl H
    · have H := H.2 h4
      exact sl_At.sub [1, 2, 3, 4, 5, 0] rfl H
set_option maxHeartbeats 4000000 in
set_option maxRecDepth 10000 in
theorem vX1_passOn_32 {l : Launch} {M : sl_M} {Q : sl_R} {x1 x2 x3 : Int} {a4 o5 : Nat} (ha4 : sl_ar 1 a4 = some (0, 40)) (ho5 : sl_cls o5 = 0) (H : sl_RM M → sl_rg x1 → sl_rg x2 → sl_rg x3 → sl_RI l mX0_enter [vR o5 0, vI x1, vI 0, vI x2, vI x3] M (fun y2 M1 => (0 ≤ x1 ∧ x1 < 40) ∧ sl_RV l mX1_reach [vR 6 0, vI y2, vI (M1 6 a4 x1), vR 6 a4] M1 (fun M4 => sl_RI l mX0_enter [vR o5 0, vI x1, vI 1, vI x2, vI x3] M4 (fun y6 M5 => sl_RV l mX1_reach [vR 6 0, vI y6, vI (M5 6 a4 x1), vR 6 a4] M5 (fun M7 => Q none M7))))) : sl_At l mX1_passOn 32 [(0, vR 6 0), (1, vI x1), (2, vI x2), (3, vI x3), (4, vR 6 a4), (5, vR o5 0)] [] M Q := by
  refine sl_At.in (fun hM hls => ?_)
  have g1 : sl_rg x1 := hls _ (List.mem_of_getElem? (i := 1) rfl)
  have g2 : sl_rg x2 := hls _ (List.mem_of_getElem? (i := 2) rfl)
  have g3 : sl_rg x3 := hls _ (List.mem_of_getElem? (i := 3) rfl)
  have H := H hM g1 g2 g3
  refine r_aload_n (k := 0) rfl rfl dX1_passOn_32 ?_
  refine r_aload (k := 5) rfl dX1_passOn_33 ?_
  refine r_iload_n (k := 1) rfl rfl dX1_passOn_35 ?_
  refine r_iconst dX1_passOn_36 ?_
  refine r_iload_n (k := 2) rfl rfl dX1_passOn_37 ?_
  refine r_iload_n (k := 3) rfl rfl dX1_passOn_38 ?_
  refine r_callV (g := mX0_enter) ckX0 ho5 rfl rfl rfl mkX0_enter mvX0_enter ml_X1_105 ⟨by decide, by decide⟩ rfl (Nat.le_of_ble_eq_true rfl) rfl (ok_i g1 (ok_i ⟨by decide, by decide⟩ (ok_i g2 (ok_i g3 ok_n)))) dX1_passOn_39 (sl_afterI (sl_RI.mono (fun y2 M1 gy2 hM1 H => ?_) H))
  refine r_aload (k := 4) rfl dX1_passOn_42 ?_
  refine r_iload_n (k := 1) rfl rfl dX1_passOn_44 ?_
  obtain ⟨c3, H⟩ := H
  refine r_iald rfl ha4 rfl c3 dX1_passOn_45 ?_
  refine r_aload (k := 4) rfl dX1_passOn_46 ?_
  refine r_callV (g := mX1_reach) ckX1 rfl rfl rfl rfl mkX1_reach mvX1_reach ml_X1_108 ⟨by decide, by decide⟩ rfl (Nat.le_of_ble_eq_true rfl) rfl (ok_i gy2 (ok_i (hM1 _ _ _) (ok_r ok_n))) dX1_passOn_48 (sl_afterV (sl_RV.mono (fun M4 hM4 H => ?_) H))
  refine r_aload_n (k := 0) rfl rfl dX1_passOn_51 ?_
  refine r_aload (k := 5) rfl dX1_passOn_52 ?_
  refine r_iload_n (k := 1) rfl rfl dX1_passOn_54 ?_
  refine r_iconst dX1_passOn_55 ?_
  refine r_iload_n (k := 2) rfl rfl dX1_passOn_56 ?_
  refine r_iload_n (k := 3) rfl rfl dX1_passOn_57 ?_
  refine r_callV (g := mX0_enter) ckX0 ho5 rfl rfl rfl mkX0_enter mvX0_enter ml_X1_105 ⟨by decide, by decide⟩ rfl (Nat.le_of_ble_eq_true rfl) rfl (ok_i g1 (ok_i ⟨by decide, by decide⟩ (ok_i g2 (ok_i g3 ok_n)))) dX1_passOn_58 (sl_afterI (sl_RI.mono (fun y6 M5 gy6 hM5 H => ?_) H))
  refine r_aload (k := 4) rfl dX1_passOn_61 ?_
  refine r_iload_n (k := 1) rfl rfl dX1_passOn_63 ?_
  refine r_iald rfl ha4 rfl c3 dX1_passOn_64 ?_
  refine r_aload (k := 4) rfl dX1_passOn_65 ?_
  refine r_callV (g := mX1_reach) ckX1 rfl rfl rfl rfl mkX1_reach mvX1_reach ml_X1_108 ⟨by decide, by decide⟩ rfl (Nat.le_of_ble_eq_true rfl) rfl (ok_i gy6 (ok_i (hM5 _ _ _) (ok_r ok_n))) dX1_passOn_67 (sl_afterV (sl_RV.mono (fun M7 hM7 H => ?_) H))
  refine r_vret rfl dX1_passOn_70 ?_
  exact H
set_option maxHeartbeats 4000000 in
set_option maxRecDepth 10000 in
theorem vX1_passOn_84 {l : Launch} {M : sl_M} {Q : sl_R} {x1 x2 x3 x6 x7 : Int} {a4 o5 : Nat} (ha4 : sl_ar 1 a4 = some (0, 40)) (ho5 : sl_cls o5 = 0) (H : sl_RM M → sl_rg x1 → sl_rg x2 → sl_rg x3 → sl_rg x6 → sl_rg x7 → ((8 < x7) → Q none M) ∧ ((¬ (8 < x7)) → ((iand x6 x7 = 0) → (sl_rg (x7 * 2)) ∧ (∀ y4 : Int, y4 = x7 * 2 → sl_At l mX1_passOn 84 [(0, vR 6 0), (1, vI x1), (2, vI x2), (3, vI x3), (4, vR 6 a4), (5, vR o5 0), (6, vI x6), (7, vI y4)] [] M Q)) ∧ ((¬ (iand x6 x7 = 0)) → sl_RI l mX0_target [vR o5 0, vI x1, vI x7, vI x2, vI x3] M (fun y6 M5 => (0 ≤ x1 ∧ x1 < 40) ∧ (∃ q8 : Nat, (M5 6 0 0 = (q8 : Int) + 1 ∧ sl_cls q8 = 7) ∧ sl_RI l mX7_setBy [vR q8 0, vI x1, vI x7] M5 (fun y10 M9 => sl_RV l mX1_reach [vR 6 0, vI y6, vI (ior (M5 6 a4 x1) y10), vR 6 a4] M9 (fun M11 => (sl_rg (x7 * 2)) ∧ (∀ y13 : Int, y13 = x7 * 2 → sl_At l mX1_passOn 84 [(0, vR 6 0), (1, vI x1), (2, vI x2), (3, vI x3), (4, vR 6 a4), (5, vR o5 0), (6, vI x6), (7, vI y13)] [] M11 Q)))))))) : sl_At l mX1_passOn 84 [(0, vR 6 0), (1, vI x1), (2, vI x2), (3, vI x3), (4, vR 6 a4), (5, vR o5 0), (6, vI x6), (7, vI x7)] [] M Q := by
  refine sl_At.in (fun hM hls => ?_)
  have g1 : sl_rg x1 := hls _ (List.mem_of_getElem? (i := 1) rfl)
  have g2 : sl_rg x2 := hls _ (List.mem_of_getElem? (i := 2) rfl)
  have g3 : sl_rg x3 := hls _ (List.mem_of_getElem? (i := 3) rfl)
  have g6 : sl_rg x6 := hls _ (List.mem_of_getElem? (i := 6) rfl)
  have g7 : sl_rg x7 := hls _ (List.mem_of_getElem? (i := 7) rfl)
  have H := H hM g1 g2 g3 g6 g7
  refine r_iload (k := 7) rfl dX1_passOn_84 ?_
  refine r_bipush dX1_passOn_86 (by decide) ?_
  refine r_icmp_gt (tgt := 139) g7 ⟨by decide, by decide⟩ dX1_passOn_88 (by decide) (fun h1 => ?_) (fun h1 => ?_)
  · have H := H.1 h1
    refine r_vret rfl dX1_passOn_139 ?_
    exact H
  · have H := H.2 h1
    refine r_iload (k := 6) rfl dX1_passOn_91 ?_
    refine r_iload (k := 7) rfl dX1_passOn_93 ?_
    refine r_iand dX1_passOn_95 ?_
    refine r_if_eq (tgt := 130) (rg_iand _ _) dX1_passOn_96 (by decide) (fun h2 => ?_) (fun h2 => ?_)
    · have H := H.1 h2
      refine r_iload (k := 7) rfl dX1_passOn_130 ?_
      refine r_iconst dX1_passOn_132 ?_
      refine r_imul dX1_passOn_133 ?_
      obtain ⟨c3, H⟩ := H
      refine r_nm (fun y4 fy4 => ?_)
      have H := H y4 fy4
      have gy4 : sl_rg y4 := by rw [fy4]; exact c3
      refine r_istore (ls' := [(7, vI y4), (0, vR 6 0), (1, vI x1), (2, vI x2), (3, vI x3), (4, vR 6 a4), (5, vR o5 0), (6, vI x6)]) gy4 (by decide) rfl dX1_passOn_134 ?_
      refine r_goto (tgt := 84) dX1_passOn_136 (by decide) ?_
      exact sl_At.sub [1, 2, 3, 4, 5, 6, 7, 0] rfl H
    · have H := H.2 h2
      refine r_aload_n (k := 0) rfl rfl dX1_passOn_99 ?_
      refine r_aload (k := 5) rfl dX1_passOn_100 ?_
      refine r_iload_n (k := 1) rfl rfl dX1_passOn_102 ?_
      refine r_iload (k := 7) rfl dX1_passOn_103 ?_
      refine r_iload_n (k := 2) rfl rfl dX1_passOn_105 ?_
      refine r_iload_n (k := 3) rfl rfl dX1_passOn_106 ?_
      refine r_callV (g := mX0_target) ckX0 ho5 rfl rfl rfl mkX0_target mvX0_target ml_X1_73 ⟨by decide, by decide⟩ rfl (Nat.le_of_ble_eq_true rfl) rfl (ok_i g1 (ok_i g7 (ok_i g2 (ok_i g3 ok_n)))) dX1_passOn_107 (sl_afterI (sl_RI.mono (fun y6 M5 gy6 hM5 H => ?_) H))
      refine r_aload (k := 4) rfl dX1_passOn_110 ?_
      refine r_iload_n (k := 1) rfl rfl dX1_passOn_112 ?_
      obtain ⟨c7, H⟩ := H
      refine r_iald rfl ha4 rfl c7 dX1_passOn_113 ?_
      refine r_aload_n (k := 0) rfl rfl dX1_passOn_114 ?_
      obtain ⟨q8, ⟨wq8, zq8⟩, H⟩ := H
      refine r_getS (hw := rfl) wq8 fl_X1_28 dX1_passOn_115 ?_
      refine r_iload_n (k := 1) rfl rfl dX1_passOn_118 ?_
      refine r_iload (k := 7) rfl dX1_passOn_119 ?_
      refine r_callV (g := mX7_setBy) ckX7 zq8 rfl rfl rfl mkX7_setBy mvX7_setBy ml_X1_114 ⟨by decide, by decide⟩ rfl (Nat.le_of_ble_eq_true rfl) rfl (ok_i g1 (ok_i g7 ok_n)) dX1_passOn_121 (sl_afterI (sl_RI.mono (fun y10 M9 gy10 hM9 H => ?_) H))
      refine r_ior dX1_passOn_124 ?_
      refine r_aload (k := 4) rfl dX1_passOn_125 ?_
      refine r_callV (g := mX1_reach) ckX1 rfl rfl rfl rfl mkX1_reach mvX1_reach ml_X1_108 ⟨by decide, by decide⟩ rfl (Nat.le_of_ble_eq_true rfl) rfl (ok_i gy6 (ok_i (rg_ior _ _) (ok_r ok_n))) dX1_passOn_127 (sl_afterV (sl_RV.mono (fun M11 hM11 H => ?_) H))
      refine r_iload (k := 7) rfl dX1_passOn_130 ?_
      refine r_iconst dX1_passOn_132 ?_
      refine r_imul dX1_passOn_133 ?_
      obtain ⟨c12, H⟩ := H
      refine r_nm (fun y13 fy13 => ?_)
      have H := H y13 fy13
      have gy13 : sl_rg y13 := by rw [fy13]; exact c12
      refine r_istore (ls' := [(7, vI y13), (0, vR 6 0), (1, vI x1), (2, vI x2), (3, vI x3), (4, vR 6 a4), (5, vR o5 0), (6, vI x6)]) gy13 (by decide) rfl dX1_passOn_134 ?_
      refine r_goto (tgt := 84) dX1_passOn_136 (by decide) ?_
      exact sl_At.sub [1, 2, 3, 4, 5, 6, 7, 0] rfl H
theorem eX1_passOn {l : Launch} {M : sl_M} {Q : sl_R} {x1 x2 x3 : Int} {a4 : Nat} (k : sl_At l mX1_passOn 0 [(0, vR 6 0), (1, vI x1), (2, vI x2), (3, vI x3), (4, vR 6 a4)] [] M Q) : sl_Runs l mX1_passOn [vR 6 0, vI x1, vI x2, vI x3, vR 6 a4] M Q := sl_Runs.of (ls := [(0, vR 6 0), (1, vI x1), (2, vI x2), (3, vI x3), (4, vR 6 a4)]) rfl rfl (fun _ => rfl) (fun _ => Nat.le_of_ble_eq_true rfl) rfl (k)
theorem dX1_reach_0 : decode cX1_reach 0 = .ok (.iload_n 1, 1) := by decide +kernel
theorem dX1_reach_1 : decode cX1_reach 1 = .ok (.ifCond .lt 13, 3) := by decide +kernel
theorem dX1_reach_4 : decode cX1_reach 4 = .ok (.aload_n 3, 1) := by decide +kernel
theorem dX1_reach_5 : decode cX1_reach 5 = .ok (.iload_n 1, 1) := by decide +kernel
theorem dX1_reach_6 : decode cX1_reach 6 = .ok (.dup2, 1) := by decide +kernel
theorem dX1_reach_7 : decode cX1_reach 7 = .ok (.iaload, 1) := by decide +kernel
theorem dX1_reach_8 : decode cX1_reach 8 = .ok (.iload_n 2, 1) := by decide +kernel
theorem dX1_reach_9 : decode cX1_reach 9 = .ok (.iand, 1) := by decide +kernel
theorem dX1_reach_10 : decode cX1_reach 10 = .ok (.iastore, 1) := by decide +kernel
theorem dX1_reach_11 : decode cX1_reach 11 = .ok (.goto 21, 3) := by decide +kernel
theorem dX1_reach_14 : decode cX1_reach 14 = .ok (.iload_n 1, 1) := by decide +kernel
theorem dX1_reach_15 : decode cX1_reach 15 = .ok (.ineg, 1) := by decide +kernel
theorem dX1_reach_16 : decode cX1_reach 16 = .ok (.bipush 9, 2) := by decide +kernel
theorem dX1_reach_18 : decode cX1_reach 18 = .ok (.if_icmp .ge 14, 3) := by decide +kernel
theorem dX1_reach_21 : decode cX1_reach 21 = .ok (.aload_n 0, 1) := by decide +kernel
theorem dX1_reach_22 : decode cX1_reach 22 = .ok (.getfield 21, 3) := by decide +kernel
theorem dX1_reach_25 : decode cX1_reach 25 = .ok (.iload_n 1, 1) := by decide +kernel
theorem dX1_reach_26 : decode cX1_reach 26 = .ok (.ineg, 1) := by decide +kernel
theorem dX1_reach_27 : decode cX1_reach 27 = .ok (.dup2, 1) := by decide +kernel
theorem dX1_reach_28 : decode cX1_reach 28 = .ok (.iaload, 1) := by decide +kernel
theorem dX1_reach_29 : decode cX1_reach 29 = .ok (.iload_n 2, 1) := by decide +kernel
theorem dX1_reach_30 : decode cX1_reach 30 = .ok (.iand, 1) := by decide +kernel
theorem dX1_reach_31 : decode cX1_reach 31 = .ok (.iastore, 1) := by decide +kernel
theorem dX1_reach_32 : decode cX1_reach 32 = .ok (.return_, 1) := by decide +kernel
set_option maxHeartbeats 4000000 in
set_option maxRecDepth 10000 in
theorem vX1_reach_0 {l : Launch} {M : sl_M} {Q : sl_R} {x1 x2 : Int} {a3 : Nat} (ha3 : sl_ar 1 a3 = some (0, 40)) (H : sl_RM M → sl_rg x1 → sl_rg x2 → ((x1 < 0) → (sl_rg (-x1)) ∧ ((9 ≤ -x1) → Q none M) ∧ ((¬ (9 ≤ -x1)) → (0 ≤ -x1 ∧ -x1 < 9) ∧ (∀ M5, M5 = sl_wr M 6 6 (-x1) (iand (M 6 6 (-x1)) x2) → Q none M5))) ∧ ((¬ (x1 < 0)) → (0 ≤ x1 ∧ x1 < 40) ∧ (∀ M7, M7 = sl_wr M 6 a3 x1 (iand (M 6 a3 x1) x2) → Q none M7))) : sl_At l mX1_reach 0 [(0, vR 6 0), (1, vI x1), (2, vI x2), (3, vR 6 a3)] [] M Q := by
  refine sl_At.in (fun hM hls => ?_)
  have g1 : sl_rg x1 := hls _ (List.mem_of_getElem? (i := 1) rfl)
  have g2 : sl_rg x2 := hls _ (List.mem_of_getElem? (i := 2) rfl)
  have H := H hM g1 g2
  refine r_iload_n (k := 1) rfl rfl dX1_reach_0 ?_
  refine r_if_lt (tgt := 14) g1 dX1_reach_1 (by decide) (fun h1 => ?_) (fun h1 => ?_)
  · have H := H.1 h1
    refine r_iload_n (k := 1) rfl rfl dX1_reach_14 ?_
    refine r_ineg dX1_reach_15 ?_
    refine r_bipush dX1_reach_16 (by decide) ?_
    obtain ⟨c2, H⟩ := H
    refine r_icmp_ge (tgt := 32) c2 ⟨by decide, by decide⟩ dX1_reach_18 (by decide) (fun h3 => ?_) (fun h3 => ?_)
    · have H := H.1 h3
      refine r_vret rfl dX1_reach_32 ?_
      exact H
    · have H := H.2 h3
      refine r_aload_n (k := 0) rfl rfl dX1_reach_21 ?_
      refine r_getR (k := 5) (o' := 6) (i' := 6) ckX1 rfl rfl (by decide) rfl rfl rfl fl_X1_21 dX1_reach_22 ?_
      refine r_iload_n (k := 1) rfl rfl dX1_reach_25 ?_
      refine r_ineg dX1_reach_26 ?_
      refine r_dup2 rfl rfl dX1_reach_27 ?_
      obtain ⟨c4, H⟩ := H
      refine r_iald rfl rfl rfl c4 dX1_reach_28 ?_
      refine r_iload_n (k := 2) rfl rfl dX1_reach_29 ?_
      refine r_iand dX1_reach_30 ?_
      refine r_iast rfl rfl rfl c4 (rg_iand _ _) dX1_reach_31 ?_
      refine r_mm (fun M5 e5 => ?_)
      have H := H M5 e5
      have hM5 : sl_RM M5 := by rw [e5]; exact sl_wr_RM hM (rg_iand _ _)
      refine r_vret rfl dX1_reach_32 ?_
      exact H
  · have H := H.2 h1
    refine r_aload_n (k := 3) rfl rfl dX1_reach_4 ?_
    refine r_iload_n (k := 1) rfl rfl dX1_reach_5 ?_
    refine r_dup2 rfl rfl dX1_reach_6 ?_
    obtain ⟨c6, H⟩ := H
    refine r_iald rfl ha3 rfl c6 dX1_reach_7 ?_
    refine r_iload_n (k := 2) rfl rfl dX1_reach_8 ?_
    refine r_iand dX1_reach_9 ?_
    refine r_iast rfl ha3 rfl c6 (rg_iand _ _) dX1_reach_10 ?_
    refine r_mm (fun M7 e7 => ?_)
    have H := H M7 e7
    have hM7 : sl_RM M7 := by rw [e7]; exact sl_wr_RM hM (rg_iand _ _)
    refine r_goto (tgt := 32) dX1_reach_11 (by decide) ?_
    refine r_vret rfl dX1_reach_32 ?_
    exact H
theorem eX1_reach {l : Launch} {M : sl_M} {Q : sl_R} {x1 x2 : Int} {a3 : Nat} (k : sl_At l mX1_reach 0 [(0, vR 6 0), (1, vI x1), (2, vI x2), (3, vR 6 a3)] [] M Q) : sl_Runs l mX1_reach [vR 6 0, vI x1, vI x2, vR 6 a3] M Q := sl_Runs.of (ls := [(0, vR 6 0), (1, vI x1), (2, vI x2), (3, vR 6 a3)]) rfl rfl (fun _ => rfl) (fun _ => Nat.le_of_ble_eq_true rfl) rfl (k)
theorem dX1_findLive_0 : decode cX1_findLive 0 = .ok (.iload_n 1, 1) := by decide +kernel
theorem dX1_findLive_1 : decode cX1_findLive 1 = .ok (.istore 4, 2) := by decide +kernel
theorem dX1_findLive_3 : decode cX1_findLive 3 = .ok (.iload 4, 2) := by decide +kernel
theorem dX1_findLive_5 : decode cX1_findLive 5 = .ok (.iload_n 2, 1) := by decide +kernel
theorem dX1_findLive_6 : decode cX1_findLive 6 = .ok (.if_icmp .gt 14, 3) := by decide +kernel
theorem dX1_findLive_9 : decode cX1_findLive 9 = .ok (.aload_n 3, 1) := by decide +kernel
theorem dX1_findLive_10 : decode cX1_findLive 10 = .ok (.iload 4, 2) := by decide +kernel
theorem dX1_findLive_12 : decode cX1_findLive 12 = .ok (.iconst 0, 1) := by decide +kernel
theorem dX1_findLive_13 : decode cX1_findLive 13 = .ok (.iastore, 1) := by decide +kernel
theorem dX1_findLive_14 : decode cX1_findLive 14 = .ok (.iinc 4 1, 3) := by decide +kernel
theorem dX1_findLive_17 : decode cX1_findLive 17 = .ok (.goto (-14), 3) := by decide +kernel
theorem dX1_findLive_20 : decode cX1_findLive 20 = .ok (.iconst 1, 1) := by decide +kernel
theorem dX1_findLive_21 : decode cX1_findLive 21 = .ok (.istore 4, 2) := by decide +kernel
theorem dX1_findLive_23 : decode cX1_findLive 23 = .ok (.iconst 0, 1) := by decide +kernel
theorem dX1_findLive_24 : decode cX1_findLive 24 = .ok (.istore 5, 2) := by decide +kernel
theorem dX1_findLive_26 : decode cX1_findLive 26 = .ok (.iload 5, 2) := by decide +kernel
theorem dX1_findLive_28 : decode cX1_findLive 28 = .ok (.sipush 320, 3) := by decide +kernel
theorem dX1_findLive_31 : decode cX1_findLive 31 = .ok (.if_icmp .gt 88, 3) := by decide +kernel
theorem dX1_findLive_34 : decode cX1_findLive 34 = .ok (.iload 4, 2) := by decide +kernel
theorem dX1_findLive_36 : decode cX1_findLive 36 = .ok (.ifCond .eq 83, 3) := by decide +kernel
theorem dX1_findLive_39 : decode cX1_findLive 39 = .ok (.iconst 0, 1) := by decide +kernel
theorem dX1_findLive_40 : decode cX1_findLive 40 = .ok (.istore 4, 2) := by decide +kernel
theorem dX1_findLive_42 : decode cX1_findLive 42 = .ok (.iload_n 1, 1) := by decide +kernel
theorem dX1_findLive_43 : decode cX1_findLive 43 = .ok (.istore 6, 2) := by decide +kernel
theorem dX1_findLive_45 : decode cX1_findLive 45 = .ok (.iload 6, 2) := by decide +kernel
theorem dX1_findLive_47 : decode cX1_findLive 47 = .ok (.iload_n 2, 1) := by decide +kernel
theorem dX1_findLive_48 : decode cX1_findLive 48 = .ok (.if_icmp .gt 65, 3) := by decide +kernel
theorem dX1_findLive_51 : decode cX1_findLive 51 = .ok (.iload 5, 2) := by decide +kernel
theorem dX1_findLive_53 : decode cX1_findLive 53 = .ok (.iconst 2, 1) := by decide +kernel
theorem dX1_findLive_54 : decode cX1_findLive 54 = .ok (.irem, 1) := by decide +kernel
theorem dX1_findLive_55 : decode cX1_findLive 55 = .ok (.ifCond .ne 12, 3) := by decide +kernel
theorem dX1_findLive_58 : decode cX1_findLive 58 = .ok (.iload_n 2, 1) := by decide +kernel
theorem dX1_findLive_59 : decode cX1_findLive 59 = .ok (.iload 6, 2) := by decide +kernel
theorem dX1_findLive_61 : decode cX1_findLive 61 = .ok (.iload_n 1, 1) := by decide +kernel
theorem dX1_findLive_62 : decode cX1_findLive 62 = .ok (.isub, 1) := by decide +kernel
theorem dX1_findLive_63 : decode cX1_findLive 63 = .ok (.isub, 1) := by decide +kernel
theorem dX1_findLive_64 : decode cX1_findLive 64 = .ok (.goto 5, 3) := by decide +kernel
theorem dX1_findLive_67 : decode cX1_findLive 67 = .ok (.iload 6, 2) := by decide +kernel
theorem dX1_findLive_69 : decode cX1_findLive 69 = .ok (.istore 7, 2) := by decide +kernel
theorem dX1_findLive_71 : decode cX1_findLive 71 = .ok (.aload_n 0, 1) := by decide +kernel
theorem dX1_findLive_72 : decode cX1_findLive 72 = .ok (.iload 7, 2) := by decide +kernel
theorem dX1_findLive_74 : decode cX1_findLive 74 = .ok (.iload_n 1, 1) := by decide +kernel
theorem dX1_findLive_75 : decode cX1_findLive 75 = .ok (.iload_n 2, 1) := by decide +kernel
theorem dX1_findLive_76 : decode cX1_findLive 76 = .ok (.aload_n 3, 1) := by decide +kernel
theorem dX1_findLive_77 : decode cX1_findLive 77 = .ok (.invokevirtual 118, 3) := by decide +kernel
theorem dX1_findLive_80 : decode cX1_findLive 80 = .ok (.istore 8, 2) := by decide +kernel
theorem dX1_findLive_82 : decode cX1_findLive 82 = .ok (.iload 4, 2) := by decide +kernel
theorem dX1_findLive_84 : decode cX1_findLive 84 = .ok (.iload 8, 2) := by decide +kernel
theorem dX1_findLive_86 : decode cX1_findLive 86 = .ok (.aload_n 3, 1) := by decide +kernel
theorem dX1_findLive_87 : decode cX1_findLive 87 = .ok (.iload 7, 2) := by decide +kernel
theorem dX1_findLive_89 : decode cX1_findLive 89 = .ok (.iaload, 1) := by decide +kernel
theorem dX1_findLive_90 : decode cX1_findLive 90 = .ok (.if_icmp .eq 7, 3) := by decide +kernel
theorem dX1_findLive_93 : decode cX1_findLive 93 = .ok (.iconst 1, 1) := by decide +kernel
theorem dX1_findLive_94 : decode cX1_findLive 94 = .ok (.goto 4, 3) := by decide +kernel
theorem dX1_findLive_97 : decode cX1_findLive 97 = .ok (.iconst 0, 1) := by decide +kernel
theorem dX1_findLive_98 : decode cX1_findLive 98 = .ok (.ior, 1) := by decide +kernel
theorem dX1_findLive_99 : decode cX1_findLive 99 = .ok (.istore 4, 2) := by decide +kernel
theorem dX1_findLive_101 : decode cX1_findLive 101 = .ok (.aload_n 3, 1) := by decide +kernel
theorem dX1_findLive_102 : decode cX1_findLive 102 = .ok (.iload 7, 2) := by decide +kernel
theorem dX1_findLive_104 : decode cX1_findLive 104 = .ok (.iload 8, 2) := by decide +kernel
theorem dX1_findLive_106 : decode cX1_findLive 106 = .ok (.iastore, 1) := by decide +kernel
theorem dX1_findLive_107 : decode cX1_findLive 107 = .ok (.iinc 6 1, 3) := by decide +kernel
theorem dX1_findLive_110 : decode cX1_findLive 110 = .ok (.goto (-65), 3) := by decide +kernel
theorem dX1_findLive_113 : decode cX1_findLive 113 = .ok (.iinc 5 1, 3) := by decide +kernel
theorem dX1_findLive_116 : decode cX1_findLive 116 = .ok (.goto (-90), 3) := by decide +kernel
theorem dX1_findLive_119 : decode cX1_findLive 119 = .ok (.return_, 1) := by decide +kernel
set_option maxHeartbeats 4000000 in
set_option maxRecDepth 10000 in
theorem vX1_findLive_0 {l : Launch} {M : sl_M} {Q : sl_R} {x1 x2 : Int} {a3 : Nat} (ha3 : sl_ar 1 a3 = some (0, 40)) (H : sl_RM M → sl_rg x1 → sl_rg x2 → sl_At l mX1_findLive 3 [(0, vR 6 0), (1, vI x1), (2, vI x2), (3, vR 6 a3), (4, vI x1)] [] M Q) : sl_At l mX1_findLive 0 [(0, vR 6 0), (1, vI x1), (2, vI x2), (3, vR 6 a3)] [] M Q := by
  refine sl_At.in (fun hM hls => ?_)
  have g1 : sl_rg x1 := hls _ (List.mem_of_getElem? (i := 1) rfl)
  have g2 : sl_rg x2 := hls _ (List.mem_of_getElem? (i := 2) rfl)
  have H := H hM g1 g2
  refine r_iload_n (k := 1) rfl rfl dX1_findLive_0 ?_
  refine r_istore (ls' := [(4, vI x1), (0, vR 6 0), (1, vI x1), (2, vI x2), (3, vR 6 a3)]) g1 (by decide) rfl dX1_findLive_1 ?_
  exact sl_At.sub [1, 2, 3, 4, 0] rfl H
set_option maxHeartbeats 4000000 in
set_option maxRecDepth 10000 in
theorem vX1_findLive_3 {l : Launch} {M : sl_M} {Q : sl_R} {x1 x2 x4 : Int} {a3 : Nat} (ha3 : sl_ar 1 a3 = some (0, 40)) (H : sl_RM M → sl_rg x1 → sl_rg x2 → sl_rg x4 → ((x2 < x4) → sl_At l mX1_findLive 26 [(0, vR 6 0), (1, vI x1), (2, vI x2), (3, vR 6 a3), (4, vI 1), (5, vI 0)] [] M Q) ∧ ((¬ (x2 < x4)) → (0 ≤ x4 ∧ x4 < 40) ∧ (∀ M3, M3 = sl_wr M 6 a3 x4 0 → (sl_rg (x4 + 1)) ∧ sl_At l mX1_findLive 3 [(0, vR 6 0), (1, vI x1), (2, vI x2), (3, vR 6 a3), (4, vI (x4 + 1))] [] M3 Q))) : sl_At l mX1_findLive 3 [(0, vR 6 0), (1, vI x1), (2, vI x2), (3, vR 6 a3), (4, vI x4)] [] M Q := by
  refine sl_At.in (fun hM hls => ?_)
  have g1 : sl_rg x1 := hls _ (List.mem_of_getElem? (i := 1) rfl)
  have g2 : sl_rg x2 := hls _ (List.mem_of_getElem? (i := 2) rfl)
  have g4 : sl_rg x4 := hls _ (List.mem_of_getElem? (i := 4) rfl)
  have H := H hM g1 g2 g4
  refine r_iload (k := 4) rfl dX1_findLive_3 ?_
  refine r_iload_n (k := 2) rfl rfl dX1_findLive_5 ?_
  refine r_icmp_gt (tgt := 20) g4 g2 dX1_findLive_6 (by decide) (fun h1 => ?_) (fun h1 => ?_)
  · have H := H.1 h1
    refine r_iconst dX1_findLive_20 ?_
    refine r_istore (ls' := [(4, vI 1), (0, vR 6 0), (1, vI x1), (2, vI x2), (3, vR 6 a3)]) ⟨by decide, by decide⟩ (by decide) rfl dX1_findLive_21 ?_
    refine r_iconst dX1_findLive_23 ?_
    refine r_istore (ls' := [(5, vI 0), (4, vI 1), (0, vR 6 0), (1, vI x1), (2, vI x2), (3, vR 6 a3)]) ⟨by decide, by decide⟩ (by decide) rfl dX1_findLive_24 ?_
    exact sl_At.sub [2, 3, 4, 5, 1, 0] rfl H
  · have H := H.2 h1
    refine r_aload_n (k := 3) rfl rfl dX1_findLive_9 ?_
    refine r_iload (k := 4) rfl dX1_findLive_10 ?_
    refine r_iconst dX1_findLive_12 ?_
    obtain ⟨c2, H⟩ := H
    refine r_iast rfl ha3 rfl c2 ⟨by decide, by decide⟩ dX1_findLive_13 ?_
    refine r_mm (fun M3 e3 => ?_)
    have H := H M3 e3
    have hM3 : sl_RM M3 := by rw [e3]; exact sl_wr_RM hM ⟨by decide, by decide⟩
    obtain ⟨c4, H⟩ := H
    refine r_iinc (k := 4) (ls' := [(4, vI (x4 + 1)), (0, vR 6 0), (1, vI x1), (2, vI x2), (3, vR 6 a3)]) rfl c4 (by decide) rfl dX1_findLive_14 ?_
    refine r_goto (tgt := 3) dX1_findLive_17 (by decide) ?_
    exact sl_At.sub [1, 2, 3, 4, 0] rfl H
set_option maxHeartbeats 4000000 in
set_option maxRecDepth 10000 in
theorem vX1_findLive_26 {l : Launch} {M : sl_M} {Q : sl_R} {x1 x2 x4 x5 : Int} {a3 : Nat} (ha3 : sl_ar 1 a3 = some (0, 40)) (H : sl_RM M → sl_rg x1 → sl_rg x2 → sl_rg x4 → sl_rg x5 → ((320 < x5) → Q none M) ∧ ((¬ (320 < x5)) → ((x4 = 0) → Q none M) ∧ ((¬ (x4 = 0)) → sl_At l mX1_findLive 45 [(0, vR 6 0), (1, vI x1), (2, vI x2), (3, vR 6 a3), (4, vI 0), (5, vI x5), (6, vI x1)] [] M Q))) : sl_At l mX1_findLive 26 [(0, vR 6 0), (1, vI x1), (2, vI x2), (3, vR 6 a3), (4, vI x4), (5, vI x5)] [] M Q := by
  refine sl_At.in (fun hM hls => ?_)
  have g1 : sl_rg x1 := hls _ (List.mem_of_getElem? (i := 1) rfl)
  have g2 : sl_rg x2 := hls _ (List.mem_of_getElem? (i := 2) rfl)
  have g4 : sl_rg x4 := hls _ (List.mem_of_getElem? (i := 4) rfl)
  have g5 : sl_rg x5 := hls _ (List.mem_of_getElem? (i := 5) rfl)
  have H := H hM g1 g2 g4 g5
  refine r_iload (k := 5) rfl dX1_findLive_26 ?_
  refine r_sipush dX1_findLive_28 (by decide) ?_
  refine r_icmp_gt (tgt := 119) g5 ⟨by decide, by decide⟩ dX1_findLive_31 (by decide) (fun h1 => ?_) (fun h1 => ?_)
  · have H := H.1 h1
    refine r_vret rfl dX1_findLive_119 ?_
    exact H
  · have H := H.2 h1
    refine r_iload (k := 4) rfl dX1_findLive_34 ?_
    refine r_if_eq (tgt := 119) g4 dX1_findLive_36 (by decide) (fun h2 => ?_) (fun h2 => ?_)
    · have H := H.1 h2
      refine r_vret rfl dX1_findLive_119 ?_
      exact H
    · have H := H.2 h2
      refine r_iconst dX1_findLive_39 ?_
      refine r_istore (ls' := [(4, vI 0), (0, vR 6 0), (1, vI x1), (2, vI x2), (3, vR 6 a3), (5, vI x5)]) ⟨by decide, by decide⟩ (by decide) rfl dX1_findLive_40 ?_
      refine r_iload_n (k := 2) rfl rfl dX1_findLive_42 ?_
      refine r_istore (ls' := [(6, vI x1), (4, vI 0), (0, vR 6 0), (1, vI x1), (2, vI x2), (3, vR 6 a3), (5, vI x5)]) g1 (by decide) rfl dX1_findLive_43 ?_
      exact sl_At.sub [2, 3, 4, 5, 1, 6, 0] rfl H
set_option maxHeartbeats 4000000 in
set_option maxRecDepth 10000 in
theorem vX1_findLive_45 {l : Launch} {M : sl_M} {Q : sl_R} {x1 x2 x4 x5 x6 : Int} {a3 : Nat} (ha3 : sl_ar 1 a3 = some (0, 40)) (H : sl_RM M → sl_rg x1 → sl_rg x2 → sl_rg x4 → sl_rg x5 → sl_rg x6 → ((x2 < x6) → (sl_rg (x5 + 1)) ∧ sl_At l mX1_findLive 26 [(0, vR 6 0), (1, vI x1), (2, vI x2), (3, vR 6 a3), (4, vI x4), (5, vI (x5 + 1))] [] M Q) ∧ ((¬ (x2 < x6)) → (sl_rg (if irem x5 2 ≠ 0 then x6 else x2 - (x6 - x1))) ∧ (∀ y5 : Int, y5 = (if irem x5 2 ≠ 0 then x6 else x2 - (x6 - x1)) → sl_RI l mX1_liveAt [vR 6 0, vI y5, vI x1, vI x2, vR 6 a3] M (fun y7 M6 => (0 ≤ y5 ∧ y5 < 40) ∧ (∀ y10 : Int, y10 = ior x4 (if ¬ (y7 = M6 6 a3 y5) then 1 else 0) → (∀ M11, M11 = sl_wr M6 6 a3 y5 y7 → (sl_rg (x6 + 1)) ∧ sl_At l mX1_findLive 45 [(0, vR 6 0), (1, vI x1), (2, vI x2), (3, vR 6 a3), (4, vI y10), (5, vI x5), (6, vI (x6 + 1))] [] M11 Q)))))) : sl_At l mX1_findLive 45 [(0, vR 6 0), (1, vI x1), (2, vI x2), (3, vR 6 a3), (4, vI x4), (5, vI x5), (6, vI x6)] [] M Q := by
  refine sl_At.in (fun hM hls => ?_)
  have g1 : sl_rg x1 := hls _ (List.mem_of_getElem? (i := 1) rfl)
  have g2 : sl_rg x2 := hls _ (List.mem_of_getElem? (i := 2) rfl)
  have g4 : sl_rg x4 := hls _ (List.mem_of_getElem? (i := 4) rfl)
  have g5 : sl_rg x5 := hls _ (List.mem_of_getElem? (i := 5) rfl)
  have g6 : sl_rg x6 := hls _ (List.mem_of_getElem? (i := 6) rfl)
  have H := H hM g1 g2 g4 g5 g6
  refine r_iload (k := 6) rfl dX1_findLive_45 ?_
  refine r_iload_n (k := 2) rfl rfl dX1_findLive_47 ?_
  refine r_icmp_gt (tgt := 113) g6 g2 dX1_findLive_48 (by decide) (fun h1 => ?_) (fun h1 => ?_)
  · have H := H.1 h1
    obtain ⟨c2, H⟩ := H
    refine r_iinc (k := 5) (ls' := [(5, vI (x5 + 1)), (0, vR 6 0), (1, vI x1), (2, vI x2), (3, vR 6 a3), (4, vI x4), (6, vI x6)]) rfl c2 (by decide) rfl dX1_findLive_113 ?_
    refine r_goto (tgt := 26) dX1_findLive_116 (by decide) ?_
    exact sl_At.sub [1, 2, 3, 4, 5, 0] rfl H
  · have H := H.2 h1
    refine r_iload (k := 5) rfl dX1_findLive_51 ?_
    refine r_iconst dX1_findLive_53 ?_
    refine r_irem ⟨by decide, by decide⟩ (by decide) dX1_findLive_54 ?_
    have J : sl_At l mX1_findLive 69 [(0, vR 6 0), (1, vI x1), (2, vI x2), (3, vR 6 a3), (4, vI x4), (5, vI x5), (6, vI x6)] [vI (if irem x5 2 ≠ 0 then x6 else x2 - (x6 - x1))] M Q := by
      obtain ⟨c4, H⟩ := H
      refine r_nm (fun y5 fy5 => ?_)
      have H := H y5 fy5
      have gy5 : sl_rg y5 := by rw [fy5]; exact c4
      refine r_istore (ls' := [(7, vI y5), (0, vR 6 0), (1, vI x1), (2, vI x2), (3, vR 6 a3), (4, vI x4), (5, vI x5), (6, vI x6)]) gy5 (by decide) rfl dX1_findLive_69 ?_
      refine r_aload_n (k := 1) rfl rfl dX1_findLive_71 ?_
      refine r_iload (k := 0) rfl dX1_findLive_72 ?_
      refine r_iload_n (k := 2) rfl rfl dX1_findLive_74 ?_
      refine r_iload_n (k := 3) rfl rfl dX1_findLive_75 ?_
      refine r_aload_n (k := 4) rfl rfl dX1_findLive_76 ?_
      refine r_callV (g := mX1_liveAt) ckX1 rfl rfl rfl rfl mkX1_liveAt mvX1_liveAt ml_X1_118 ⟨by decide, by decide⟩ rfl (Nat.le_of_ble_eq_true rfl) rfl (ok_i gy5 (ok_i g1 (ok_i g2 (ok_r ok_n)))) dX1_findLive_77 (sl_afterI (sl_RI.mono (fun y7 M6 gy7 hM6 H => ?_) H))
      refine r_istore (ls' := [(8, vI y7), (7, vI y5), (0, vR 6 0), (1, vI x1), (2, vI x2), (3, vR 6 a3), (4, vI x4), (5, vI x5), (6, vI x6)]) gy7 (by decide) rfl dX1_findLive_80 ?_
      refine r_iload (k := 6) rfl dX1_findLive_82 ?_
      refine r_iload (k := 0) rfl dX1_findLive_84 ?_
      refine r_aload_n (k := 5) rfl rfl dX1_findLive_86 ?_
      refine r_iload (k := 1) rfl dX1_findLive_87 ?_
      obtain ⟨c8, H⟩ := H
      refine r_iald rfl ha3 rfl c8 dX1_findLive_89 ?_
      have J : sl_At l mX1_findLive 98 [(8, vI y7), (7, vI y5), (0, vR 6 0), (1, vI x1), (2, vI x2), (3, vR 6 a3), (4, vI x4), (5, vI x5), (6, vI x6)] [vI (if ¬ (y7 = M6 6 a3 y5) then 1 else 0), vI x4] M6 Q := by
        refine r_ior dX1_findLive_98 ?_
        refine r_nm (fun y10 fy10 => ?_)
        have H := H y10 fy10
        have gy10 : sl_rg y10 := by rw [fy10]; exact (rg_ior _ _)
        refine r_istore (ls' := [(4, vI y10), (8, vI y7), (7, vI y5), (0, vR 6 0), (1, vI x1), (2, vI x2), (3, vR 6 a3), (5, vI x5), (6, vI x6)]) gy10 (by decide) rfl dX1_findLive_99 ?_
        refine r_aload_n (k := 6) rfl rfl dX1_findLive_101 ?_
        refine r_iload (k := 2) rfl dX1_findLive_102 ?_
        refine r_iload (k := 1) rfl dX1_findLive_104 ?_
        refine r_iast rfl ha3 rfl c8 gy7 dX1_findLive_106 ?_
        refine r_mm (fun M11 e11 => ?_)
        have H := H M11 e11
        have hM11 : sl_RM M11 := by rw [e11]; exact sl_wr_RM hM6 gy7
        obtain ⟨c12, H⟩ := H
        refine r_iinc (k := 8) (ls' := [(6, vI (x6 + 1)), (4, vI y10), (8, vI y7), (7, vI y5), (0, vR 6 0), (1, vI x1), (2, vI x2), (3, vR 6 a3), (5, vI x5)]) rfl c12 (by decide) rfl dX1_findLive_107 ?_
        refine r_goto (tgt := 45) dX1_findLive_110 (by decide) ?_
        exact sl_At.sub [4, 5, 6, 7, 1, 8, 0] rfl H
      refine r_icmp_eq (tgt := 97) gy7 (hM6 _ _ _) dX1_findLive_90 (by decide) (fun h9 => ?_) (fun h9 => ?_)
      · refine r_iconst dX1_findLive_97 ?_
        rw [if_neg (show ¬ (¬ (y7 = M6 6 a3 y5)) by omega)] at J
        exact J
      · refine r_iconst dX1_findLive_93 ?_
        refine r_goto (tgt := 98) dX1_findLive_94 (by decide) ?_
        rw [if_pos (show ¬ (y7 = M6 6 a3 y5) by omega)] at J
        exact J
    refine r_if_ne (tgt := 67) (rg_irem _ _) dX1_findLive_55 (by decide) (fun h3 => ?_) (fun h3 => ?_)
    · refine r_iload (k := 6) rfl dX1_findLive_67 ?_
      rw [if_pos h3] at J
      exact J
    · refine r_iload_n (k := 2) rfl rfl dX1_findLive_58 ?_
      refine r_iload (k := 6) rfl dX1_findLive_59 ?_
      refine r_iload_n (k := 1) rfl rfl dX1_findLive_61 ?_
      refine r_isub dX1_findLive_62 ?_
      refine r_isub dX1_findLive_63 ?_
      refine r_goto (tgt := 69) dX1_findLive_64 (by decide) ?_
      rw [if_neg h3] at J
      exact J
theorem eX1_findLive {l : Launch} {M : sl_M} {Q : sl_R} {x1 x2 : Int} {a3 : Nat} (k : sl_At l mX1_findLive 0 [(0, vR 6 0), (1, vI x1), (2, vI x2), (3, vR 6 a3)] [] M Q) : sl_Runs l mX1_findLive [vR 6 0, vI x1, vI x2, vR 6 a3] M Q := sl_Runs.of (ls := [(0, vR 6 0), (1, vI x1), (2, vI x2), (3, vR 6 a3)]) rfl rfl (fun _ => rfl) (fun _ => Nat.le_of_ble_eq_true rfl) rfl (k)
theorem dX1_liveAt_0 : decode cX1_liveAt 0 = .ok (.aload_n 0, 1) := by decide +kernel
theorem dX1_liveAt_1 : decode cX1_liveAt 1 = .ok (.getfield 28, 3) := by decide +kernel
theorem dX1_liveAt_4 : decode cX1_liveAt 4 = .ok (.getfield 32, 3) := by decide +kernel
theorem dX1_liveAt_7 : decode cX1_liveAt 7 = .ok (.astore 5, 2) := by decide +kernel
theorem dX1_liveAt_9 : decode cX1_liveAt 9 = .ok (.aload 5, 2) := by decide +kernel
theorem dX1_liveAt_11 : decode cX1_liveAt 11 = .ok (.getfield 121, 3) := by decide +kernel
theorem dX1_liveAt_14 : decode cX1_liveAt 14 = .ok (.iload_n 1, 1) := by decide +kernel
theorem dX1_liveAt_15 : decode cX1_liveAt 15 = .ok (.iaload, 1) := by decide +kernel
theorem dX1_liveAt_16 : decode cX1_liveAt 16 = .ok (.istore 6, 2) := by decide +kernel
theorem dX1_liveAt_18 : decode cX1_liveAt 18 = .ok (.aload 5, 2) := by decide +kernel
theorem dX1_liveAt_20 : decode cX1_liveAt 20 = .ok (.getfield 94, 3) := by decide +kernel
theorem dX1_liveAt_23 : decode cX1_liveAt 23 = .ok (.iload_n 1, 1) := by decide +kernel
theorem dX1_liveAt_24 : decode cX1_liveAt 24 = .ok (.iaload, 1) := by decide +kernel
theorem dX1_liveAt_25 : decode cX1_liveAt 25 = .ok (.iconst 5, 1) := by decide +kernel
theorem dX1_liveAt_26 : decode cX1_liveAt 26 = .ok (.if_icmp .eq 15, 3) := by decide +kernel
theorem dX1_liveAt_29 : decode cX1_liveAt 29 = .ok (.aload 5, 2) := by decide +kernel
theorem dX1_liveAt_31 : decode cX1_liveAt 31 = .ok (.getfield 94, 3) := by decide +kernel
theorem dX1_liveAt_34 : decode cX1_liveAt 34 = .ok (.iload_n 1, 1) := by decide +kernel
theorem dX1_liveAt_35 : decode cX1_liveAt 35 = .ok (.iaload, 1) := by decide +kernel
theorem dX1_liveAt_36 : decode cX1_liveAt 36 = .ok (.bipush 6, 2) := by decide +kernel
theorem dX1_liveAt_38 : decode cX1_liveAt 38 = .ok (.if_icmp .ne 58, 3) := by decide +kernel
theorem dX1_liveAt_41 : decode cX1_liveAt 41 = .ok (.aload 5, 2) := by decide +kernel
theorem dX1_liveAt_43 : decode cX1_liveAt 43 = .ok (.iload_n 1, 1) := by decide +kernel
theorem dX1_liveAt_44 : decode cX1_liveAt 44 = .ok (.iconst 0, 1) := by decide +kernel
theorem dX1_liveAt_45 : decode cX1_liveAt 45 = .ok (.iload_n 2, 1) := by decide +kernel
theorem dX1_liveAt_46 : decode cX1_liveAt 46 = .ok (.iload_n 3, 1) := by decide +kernel
theorem dX1_liveAt_47 : decode cX1_liveAt 47 = .ok (.invokevirtual 105, 3) := by decide +kernel
theorem dX1_liveAt_50 : decode cX1_liveAt 50 = .ok (.istore 7, 2) := by decide +kernel
theorem dX1_liveAt_52 : decode cX1_liveAt 52 = .ok (.aload 5, 2) := by decide +kernel
theorem dX1_liveAt_54 : decode cX1_liveAt 54 = .ok (.iload_n 1, 1) := by decide +kernel
theorem dX1_liveAt_55 : decode cX1_liveAt 55 = .ok (.iconst 1, 1) := by decide +kernel
theorem dX1_liveAt_56 : decode cX1_liveAt 56 = .ok (.iload_n 2, 1) := by decide +kernel
theorem dX1_liveAt_57 : decode cX1_liveAt 57 = .ok (.iload_n 3, 1) := by decide +kernel
theorem dX1_liveAt_58 : decode cX1_liveAt 58 = .ok (.invokevirtual 105, 3) := by decide +kernel
theorem dX1_liveAt_61 : decode cX1_liveAt 61 = .ok (.istore 8, 2) := by decide +kernel
theorem dX1_liveAt_63 : decode cX1_liveAt 63 = .ok (.iload 6, 2) := by decide +kernel
theorem dX1_liveAt_65 : decode cX1_liveAt 65 = .ok (.iload 7, 2) := by decide +kernel
theorem dX1_liveAt_67 : decode cX1_liveAt 67 = .ok (.ifCond .lt 11, 3) := by decide +kernel
theorem dX1_liveAt_70 : decode cX1_liveAt 70 = .ok (.aload 4, 2) := by decide +kernel
theorem dX1_liveAt_72 : decode cX1_liveAt 72 = .ok (.iload 7, 2) := by decide +kernel
theorem dX1_liveAt_74 : decode cX1_liveAt 74 = .ok (.iaload, 1) := by decide +kernel
theorem dX1_liveAt_75 : decode cX1_liveAt 75 = .ok (.goto 4, 3) := by decide +kernel
theorem dX1_liveAt_78 : decode cX1_liveAt 78 = .ok (.iconst 0, 1) := by decide +kernel
theorem dX1_liveAt_79 : decode cX1_liveAt 79 = .ok (.ior, 1) := by decide +kernel
theorem dX1_liveAt_80 : decode cX1_liveAt 80 = .ok (.iload 8, 2) := by decide +kernel
theorem dX1_liveAt_82 : decode cX1_liveAt 82 = .ok (.ifCond .lt 11, 3) := by decide +kernel
theorem dX1_liveAt_85 : decode cX1_liveAt 85 = .ok (.aload 4, 2) := by decide +kernel
theorem dX1_liveAt_87 : decode cX1_liveAt 87 = .ok (.iload 8, 2) := by decide +kernel
theorem dX1_liveAt_89 : decode cX1_liveAt 89 = .ok (.iaload, 1) := by decide +kernel
theorem dX1_liveAt_90 : decode cX1_liveAt 90 = .ok (.goto 4, 3) := by decide +kernel
theorem dX1_liveAt_93 : decode cX1_liveAt 93 = .ok (.iconst 0, 1) := by decide +kernel
theorem dX1_liveAt_94 : decode cX1_liveAt 94 = .ok (.ior, 1) := by decide +kernel
theorem dX1_liveAt_95 : decode cX1_liveAt 95 = .ok (.ireturn, 1) := by decide +kernel
theorem dX1_liveAt_96 : decode cX1_liveAt 96 = .ok (.aload_n 0, 1) := by decide +kernel
theorem dX1_liveAt_97 : decode cX1_liveAt 97 = .ok (.getfield 28, 3) := by decide +kernel
theorem dX1_liveAt_100 : decode cX1_liveAt 100 = .ok (.iload_n 1, 1) := by decide +kernel
theorem dX1_liveAt_101 : decode cX1_liveAt 101 = .ok (.invokevirtual 111, 3) := by decide +kernel
theorem dX1_liveAt_104 : decode cX1_liveAt 104 = .ok (.istore 7, 2) := by decide +kernel
theorem dX1_liveAt_106 : decode cX1_liveAt 106 = .ok (.iconst 1, 1) := by decide +kernel
theorem dX1_liveAt_107 : decode cX1_liveAt 107 = .ok (.istore 8, 2) := by decide +kernel
theorem dX1_liveAt_109 : decode cX1_liveAt 109 = .ok (.iload 8, 2) := by decide +kernel
theorem dX1_liveAt_111 : decode cX1_liveAt 111 = .ok (.bipush 8, 2) := by decide +kernel
theorem dX1_liveAt_113 : decode cX1_liveAt 113 = .ok (.if_icmp .gt 64, 3) := by decide +kernel
theorem dX1_liveAt_116 : decode cX1_liveAt 116 = .ok (.iload 7, 2) := by decide +kernel
theorem dX1_liveAt_118 : decode cX1_liveAt 118 = .ok (.iload 8, 2) := by decide +kernel
theorem dX1_liveAt_120 : decode cX1_liveAt 120 = .ok (.iand, 1) := by decide +kernel
theorem dX1_liveAt_121 : decode cX1_liveAt 121 = .ok (.ifCond .eq 47, 3) := by decide +kernel
theorem dX1_liveAt_124 : decode cX1_liveAt 124 = .ok (.aload 5, 2) := by decide +kernel
theorem dX1_liveAt_126 : decode cX1_liveAt 126 = .ok (.iload_n 1, 1) := by decide +kernel
theorem dX1_liveAt_127 : decode cX1_liveAt 127 = .ok (.iload 8, 2) := by decide +kernel
theorem dX1_liveAt_129 : decode cX1_liveAt 129 = .ok (.iload_n 2, 1) := by decide +kernel
theorem dX1_liveAt_130 : decode cX1_liveAt 130 = .ok (.iload_n 3, 1) := by decide +kernel
theorem dX1_liveAt_131 : decode cX1_liveAt 131 = .ok (.invokevirtual 73, 3) := by decide +kernel
theorem dX1_liveAt_134 : decode cX1_liveAt 134 = .ok (.istore 9, 2) := by decide +kernel
theorem dX1_liveAt_136 : decode cX1_liveAt 136 = .ok (.iload 6, 2) := by decide +kernel
theorem dX1_liveAt_138 : decode cX1_liveAt 138 = .ok (.iload 9, 2) := by decide +kernel
theorem dX1_liveAt_140 : decode cX1_liveAt 140 = .ok (.ifCond .lt 11, 3) := by decide +kernel
theorem dX1_liveAt_143 : decode cX1_liveAt 143 = .ok (.aload 4, 2) := by decide +kernel
theorem dX1_liveAt_145 : decode cX1_liveAt 145 = .ok (.iload 9, 2) := by decide +kernel
theorem dX1_liveAt_147 : decode cX1_liveAt 147 = .ok (.iaload, 1) := by decide +kernel
theorem dX1_liveAt_148 : decode cX1_liveAt 148 = .ok (.goto 4, 3) := by decide +kernel
theorem dX1_liveAt_151 : decode cX1_liveAt 151 = .ok (.iconst 0, 1) := by decide +kernel
theorem dX1_liveAt_152 : decode cX1_liveAt 152 = .ok (.aload_n 0, 1) := by decide +kernel
theorem dX1_liveAt_153 : decode cX1_liveAt 153 = .ok (.getfield 28, 3) := by decide +kernel
theorem dX1_liveAt_156 : decode cX1_liveAt 156 = .ok (.iload_n 1, 1) := by decide +kernel
theorem dX1_liveAt_157 : decode cX1_liveAt 157 = .ok (.iload 8, 2) := by decide +kernel
theorem dX1_liveAt_159 : decode cX1_liveAt 159 = .ok (.invokevirtual 114, 3) := by decide +kernel
theorem dX1_liveAt_162 : decode cX1_liveAt 162 = .ok (.iconst (-1), 1) := by decide +kernel
theorem dX1_liveAt_163 : decode cX1_liveAt 163 = .ok (.ixor, 1) := by decide +kernel
theorem dX1_liveAt_164 : decode cX1_liveAt 164 = .ok (.iand, 1) := by decide +kernel
theorem dX1_liveAt_165 : decode cX1_liveAt 165 = .ok (.ior, 1) := by decide +kernel
theorem dX1_liveAt_166 : decode cX1_liveAt 166 = .ok (.istore 6, 2) := by decide +kernel
theorem dX1_liveAt_168 : decode cX1_liveAt 168 = .ok (.iload 8, 2) := by decide +kernel
theorem dX1_liveAt_170 : decode cX1_liveAt 170 = .ok (.iconst 2, 1) := by decide +kernel
theorem dX1_liveAt_171 : decode cX1_liveAt 171 = .ok (.imul, 1) := by decide +kernel
theorem dX1_liveAt_172 : decode cX1_liveAt 172 = .ok (.istore 8, 2) := by decide +kernel
theorem dX1_liveAt_174 : decode cX1_liveAt 174 = .ok (.goto (-65), 3) := by decide +kernel
theorem dX1_liveAt_177 : decode cX1_liveAt 177 = .ok (.iload 6, 2) := by decide +kernel
theorem dX1_liveAt_179 : decode cX1_liveAt 179 = .ok (.ireturn, 1) := by decide +kernel
set_option maxHeartbeats 4000000 in
set_option maxRecDepth 10000 in
theorem vX1_liveAt_0 {l : Launch} {M : sl_M} {Q : sl_R} {x1 x2 x3 : Int} {a4 : Nat} (ha4 : sl_ar 1 a4 = some (0, 40)) (H : sl_RM M → sl_rg x1 → sl_rg x2 → sl_rg x3 → (∃ q1 : Nat, (M 6 0 0 = (q1 : Int) + 1 ∧ sl_cls q1 = 7) ∧ (0 ≤ x1 ∧ x1 < 40) ∧ ((M (q1 + 10) 1 x1 = 5) → sl_At l mX1_liveAt 41 [(1, vI x1), (2, vI x2), (3, vI x3), (4, vR 6 a4), (5, vR (q1 + 10) 0), (6, vI (M (q1 + 10) 10 x1))] [] M Q) ∧ ((¬ (M (q1 + 10) 1 x1 = 5)) → ((M (q1 + 10) 1 x1 ≠ 6) → sl_RI l mX7_exitsOf [vR q1 0, vI x1] M (fun y6 M5 => sl_At l mX1_liveAt 109 [(0, vR 6 0), (1, vI x1), (2, vI x2), (3, vI x3), (4, vR 6 a4), (5, vR (q1 + 10) 0), (6, vI (M (q1 + 10) 10 x1)), (7, vI y6), (8, vI 1)] [] M5 Q)) ∧ ((¬ (M (q1 + 10) 1 x1 ≠ 6)) → sl_At l mX1_liveAt 41 [(1, vI x1), (2, vI x2), (3, vI x3), (4, vR 6 a4), (5, vR (q1 + 10) 0), (6, vI (M (q1 + 10) 10 x1))] [] M Q)))) : sl_At l mX1_liveAt 0 [(0, vR 6 0), (1, vI x1), (2, vI x2), (3, vI x3), (4, vR 6 a4)] [] M Q := by
  refine sl_At.in (fun hM hls => ?_)
  have g1 : sl_rg x1 := hls _ (List.mem_of_getElem? (i := 1) rfl)
  have g2 : sl_rg x2 := hls _ (List.mem_of_getElem? (i := 2) rfl)
  have g3 : sl_rg x3 := hls _ (List.mem_of_getElem? (i := 3) rfl)
  have H := H hM g1 g2 g3
  refine r_aload_n (k := 0) rfl rfl dX1_liveAt_0 ?_
  obtain ⟨q1, ⟨wq1, zq1⟩, H⟩ := H
  refine r_getS (hw := rfl) wq1 fl_X1_28 dX1_liveAt_1 ?_
  refine r_getR (k := 0) (o' := q1 + 10) (i' := 0) ckX7 zq1 rfl (by decide) rfl rfl rfl fl_X1_32 dX1_liveAt_4 ?_
  refine r_astore (ls' := [(5, vR (q1 + 10) 0), (0, vR 6 0), (1, vI x1), (2, vI x2), (3, vI x3), (4, vR 6 a4)]) (by decide) rfl dX1_liveAt_7 ?_
  refine r_aload (k := 0) rfl dX1_liveAt_9 ?_
  refine r_getR (k := 9) (o' := q1 + 10) (i' := 10) ckX0 (cl_prog zq1) rfl (by decide) rfl rfl rfl fl_X1_121 dX1_liveAt_11 ?_
  refine r_iload_n (k := 2) rfl rfl dX1_liveAt_14 ?_
  obtain ⟨c2, H⟩ := H
  refine r_iald (cl_prog zq1) rfl rfl c2 dX1_liveAt_15 ?_
  refine r_istore (ls' := [(6, vI (M (q1 + 10) 10 x1)), (5, vR (q1 + 10) 0), (0, vR 6 0), (1, vI x1), (2, vI x2), (3, vI x3), (4, vR 6 a4)]) (hM _ _ _) (by decide) rfl dX1_liveAt_16 ?_
  refine r_aload (k := 1) rfl dX1_liveAt_18 ?_
  refine r_getR (k := 0) (o' := q1 + 10) (i' := 1) ckX0 (cl_prog zq1) rfl (by decide) rfl rfl rfl fl_X1_94 dX1_liveAt_20 ?_
  refine r_iload_n (k := 3) rfl rfl dX1_liveAt_23 ?_
  refine r_iald (cl_prog zq1) rfl rfl c2 dX1_liveAt_24 ?_
  refine r_iconst dX1_liveAt_25 ?_
  refine r_icmp_eq (tgt := 41) (hM _ _ _) ⟨by decide, by decide⟩ dX1_liveAt_26 (by decide) (fun h3 => ?_) (fun h3 => ?_)
  · have H := H.1 h3
    exact sl_At.sub [3, 4, 5, 6, 1, 0] rfl H
  · have H := H.2 h3
    refine r_aload (k := 1) rfl dX1_liveAt_29 ?_
    refine r_getR (k := 0) (o' := q1 + 10) (i' := 1) ckX0 (cl_prog zq1) rfl (by decide) rfl rfl rfl fl_X1_94 dX1_liveAt_31 ?_
    refine r_iload_n (k := 3) rfl rfl dX1_liveAt_34 ?_
    refine r_iald (cl_prog zq1) rfl rfl c2 dX1_liveAt_35 ?_
    refine r_bipush dX1_liveAt_36 (by decide) ?_
    refine r_icmp_ne (tgt := 96) (hM _ _ _) ⟨by decide, by decide⟩ dX1_liveAt_38 (by decide) (fun h4 => ?_) (fun h4 => ?_)
    · have H := H.1 h4
      refine r_aload_n (k := 2) rfl rfl dX1_liveAt_96 ?_
      refine r_getS (hw := rfl) wq1 fl_X1_28 dX1_liveAt_97 ?_
      refine r_iload_n (k := 3) rfl rfl dX1_liveAt_100 ?_
      refine r_callV (g := mX7_exitsOf) ckX7 zq1 rfl rfl rfl mkX7_exitsOf mvX7_exitsOf ml_X1_111 ⟨by decide, by decide⟩ rfl (Nat.le_of_ble_eq_true rfl) rfl (ok_i g1 ok_n) dX1_liveAt_101 (sl_afterI (sl_RI.mono (fun y6 M5 gy6 hM5 H => ?_) H))
      refine r_istore (ls' := [(7, vI y6), (6, vI (M (q1 + 10) 10 x1)), (5, vR (q1 + 10) 0), (0, vR 6 0), (1, vI x1), (2, vI x2), (3, vI x3), (4, vR 6 a4)]) gy6 (by decide) rfl dX1_liveAt_104 ?_
      refine r_iconst dX1_liveAt_106 ?_
      refine r_istore (ls' := [(8, vI 1), (7, vI y6), (6, vI (M (q1 + 10) 10 x1)), (5, vR (q1 + 10) 0), (0, vR 6 0), (1, vI x1), (2, vI x2), (3, vI x3), (4, vR 6 a4)]) ⟨by decide, by decide⟩ (by decide) rfl dX1_liveAt_107 ?_
      exact sl_At.sub [4, 5, 6, 7, 8, 3, 2, 1, 0] rfl H
    · have H := H.2 h4
      exact sl_At.sub [3, 4, 5, 6, 1, 0] rfl H
set_option maxHeartbeats 4000000 in
set_option maxRecDepth 10000 in
theorem vX1_liveAt_41 {l : Launch} {M : sl_M} {Q : sl_R} {x1 x2 x3 x6 : Int} {a4 o5 : Nat} (ha4 : sl_ar 1 a4 = some (0, 40)) (ho5 : sl_cls o5 = 0) (H : sl_RM M → sl_rg x1 → sl_rg x2 → sl_rg x3 → sl_rg x6 → sl_RI l mX0_enter [vR o5 0, vI x1, vI 0, vI x2, vI x3] M (fun y2 M1 => sl_RI l mX0_enter [vR o5 0, vI x1, vI 1, vI x2, vI x3] M1 (fun y4 M3 => (((¬ (y2 < 0)) → (0 ≤ y2 ∧ y2 < 40))) ∧ (((¬ (y4 < 0)) → (0 ≤ y4 ∧ y4 < 40))) ∧ Q (some (vI (ior (ior x6 (if y2 < 0 then 0 else M3 6 a4 y2)) (if y4 < 0 then 0 else M3 6 a4 y4)))) M3))) : sl_At l mX1_liveAt 41 [(1, vI x1), (2, vI x2), (3, vI x3), (4, vR 6 a4), (5, vR o5 0), (6, vI x6)] [] M Q := by
  refine sl_At.in (fun hM hls => ?_)
  have g1 : sl_rg x1 := hls _ (List.mem_of_getElem? (i := 0) rfl)
  have g2 : sl_rg x2 := hls _ (List.mem_of_getElem? (i := 1) rfl)
  have g3 : sl_rg x3 := hls _ (List.mem_of_getElem? (i := 2) rfl)
  have g6 : sl_rg x6 := hls _ (List.mem_of_getElem? (i := 5) rfl)
  have H := H hM g1 g2 g3 g6
  refine r_aload (k := 4) rfl dX1_liveAt_41 ?_
  refine r_iload_n (k := 0) rfl rfl dX1_liveAt_43 ?_
  refine r_iconst dX1_liveAt_44 ?_
  refine r_iload_n (k := 1) rfl rfl dX1_liveAt_45 ?_
  refine r_iload_n (k := 2) rfl rfl dX1_liveAt_46 ?_
  refine r_callV (g := mX0_enter) ckX0 ho5 rfl rfl rfl mkX0_enter mvX0_enter ml_X1_105 ⟨by decide, by decide⟩ rfl (Nat.le_of_ble_eq_true rfl) rfl (ok_i g1 (ok_i ⟨by decide, by decide⟩ (ok_i g2 (ok_i g3 ok_n)))) dX1_liveAt_47 (sl_afterI (sl_RI.mono (fun y2 M1 gy2 hM1 H => ?_) H))
  refine r_istore (ls' := [(7, vI y2), (1, vI x1), (2, vI x2), (3, vI x3), (4, vR 6 a4), (5, vR o5 0), (6, vI x6)]) gy2 (by decide) rfl dX1_liveAt_50 ?_
  refine r_aload (k := 5) rfl dX1_liveAt_52 ?_
  refine r_iload_n (k := 1) rfl rfl dX1_liveAt_54 ?_
  refine r_iconst dX1_liveAt_55 ?_
  refine r_iload_n (k := 2) rfl rfl dX1_liveAt_56 ?_
  refine r_iload_n (k := 3) rfl rfl dX1_liveAt_57 ?_
  refine r_callV (g := mX0_enter) ckX0 ho5 rfl rfl rfl mkX0_enter mvX0_enter ml_X1_105 ⟨by decide, by decide⟩ rfl (Nat.le_of_ble_eq_true rfl) rfl (ok_i g1 (ok_i ⟨by decide, by decide⟩ (ok_i g2 (ok_i g3 ok_n)))) dX1_liveAt_58 (sl_afterI (sl_RI.mono (fun y4 M3 gy4 hM3 H => ?_) H))
  refine r_istore (ls' := [(8, vI y4), (7, vI y2), (1, vI x1), (2, vI x2), (3, vI x3), (4, vR 6 a4), (5, vR o5 0), (6, vI x6)]) gy4 (by decide) rfl dX1_liveAt_61 ?_
  refine r_iload (k := 7) rfl dX1_liveAt_63 ?_
  refine r_iload (k := 1) rfl dX1_liveAt_65 ?_
  obtain ⟨K, H⟩ := H
  have J : sl_At l mX1_liveAt 79 [(8, vI y4), (7, vI y2), (1, vI x1), (2, vI x2), (3, vI x3), (4, vR 6 a4), (5, vR o5 0), (6, vI x6)] [vI (if y2 < 0 then 0 else M3 6 a4 y2), vI x6] M3 Q := by
    refine r_ior dX1_liveAt_79 ?_
    refine r_iload (k := 0) rfl dX1_liveAt_80 ?_
    obtain ⟨K, H⟩ := H
    have J : sl_At l mX1_liveAt 94 [(8, vI y4), (7, vI y2), (1, vI x1), (2, vI x2), (3, vI x3), (4, vR 6 a4), (5, vR o5 0), (6, vI x6)] [vI (if y4 < 0 then 0 else M3 6 a4 y4), vI (ior x6 (if y2 < 0 then 0 else M3 6 a4 y2))] M3 Q := by
      refine r_ior dX1_liveAt_94 ?_
      refine r_iret rfl (rg_ior _ _) dX1_liveAt_95 ?_
      exact H
    refine r_if_lt (tgt := 93) gy4 dX1_liveAt_82 (by decide) (fun h8 => ?_) (fun h8 => ?_)
    · refine r_iconst dX1_liveAt_93 ?_
      rw [if_pos h8] at J
      exact J
    · replace K := K h8
      have c7 := K
      refine r_aload (k := 5) rfl dX1_liveAt_85 ?_
      refine r_iload (k := 0) rfl dX1_liveAt_87 ?_
      refine r_iald rfl ha4 rfl c7 dX1_liveAt_89 ?_
      refine r_goto (tgt := 94) dX1_liveAt_90 (by decide) ?_
      rw [if_neg h8] at J
      exact J
  refine r_if_lt (tgt := 78) gy2 dX1_liveAt_67 (by decide) (fun h6 => ?_) (fun h6 => ?_)
  · refine r_iconst dX1_liveAt_78 ?_
    rw [if_pos h6] at J
    exact J
  · replace K := K h6
    have c5 := K
    refine r_aload (k := 5) rfl dX1_liveAt_70 ?_
    refine r_iload (k := 1) rfl dX1_liveAt_72 ?_
    refine r_iald rfl ha4 rfl c5 dX1_liveAt_74 ?_
    refine r_goto (tgt := 79) dX1_liveAt_75 (by decide) ?_
    rw [if_neg h6] at J
    exact J
set_option maxHeartbeats 4000000 in
set_option maxRecDepth 10000 in
theorem vX1_liveAt_109 {l : Launch} {M : sl_M} {Q : sl_R} {x1 x2 x3 x6 x7 x8 : Int} {a4 o5 : Nat} (ha4 : sl_ar 1 a4 = some (0, 40)) (ho5 : sl_cls o5 = 0) (H : sl_RM M → sl_rg x1 → sl_rg x2 → sl_rg x3 → sl_rg x6 → sl_rg x7 → sl_rg x8 → ((8 < x8) → Q (some (vI x6)) M) ∧ ((¬ (8 < x8)) → ((iand x7 x8 = 0) → (sl_rg (x8 * 2)) ∧ (∀ y4 : Int, y4 = x8 * 2 → sl_At l mX1_liveAt 109 [(0, vR 6 0), (1, vI x1), (2, vI x2), (3, vI x3), (4, vR 6 a4), (5, vR o5 0), (6, vI x6), (7, vI x7), (8, vI y4)] [] M Q)) ∧ ((¬ (iand x7 x8 = 0)) → sl_RI l mX0_target [vR o5 0, vI x1, vI x8, vI x2, vI x3] M (fun y6 M5 => (((¬ (y6 < 0)) → (0 ≤ y6 ∧ y6 < 40))) ∧ (∃ q9 : Nat, (M5 6 0 0 = (q9 : Int) + 1 ∧ sl_cls q9 = 7) ∧ sl_RI l mX7_setBy [vR q9 0, vI x1, vI x8] M5 (fun y11 M10 => (∀ y12 : Int, y12 = ior x6 (iand (if y6 < 0 then 0 else M5 6 a4 y6) (ixor y11 (-1))) → (sl_rg (x8 * 2)) ∧ (∀ y14 : Int, y14 = x8 * 2 → sl_At l mX1_liveAt 109 [(0, vR 6 0), (1, vI x1), (2, vI x2), (3, vI x3), (4, vR 6 a4), (5, vR o5 0), (6, vI y12), (7, vI x7), (8, vI y14)] [] M10 Q)))))))) : sl_At l mX1_liveAt 109 [(0, vR 6 0), (1, vI x1), (2, vI x2), (3, vI x3), (4, vR 6 a4), (5, vR o5 0), (6, vI x6), (7, vI x7), (8, vI x8)] [] M Q := by
  refine sl_At.in (fun hM hls => ?_)
  have g1 : sl_rg x1 := hls _ (List.mem_of_getElem? (i := 1) rfl)
  have g2 : sl_rg x2 := hls _ (List.mem_of_getElem? (i := 2) rfl)
  have g3 : sl_rg x3 := hls _ (List.mem_of_getElem? (i := 3) rfl)
  have g6 : sl_rg x6 := hls _ (List.mem_of_getElem? (i := 6) rfl)
  have g7 : sl_rg x7 := hls _ (List.mem_of_getElem? (i := 7) rfl)
  have g8 : sl_rg x8 := hls _ (List.mem_of_getElem? (i := 8) rfl)
  have H := H hM g1 g2 g3 g6 g7 g8
  refine r_iload (k := 8) rfl dX1_liveAt_109 ?_
  refine r_bipush dX1_liveAt_111 (by decide) ?_
  refine r_icmp_gt (tgt := 177) g8 ⟨by decide, by decide⟩ dX1_liveAt_113 (by decide) (fun h1 => ?_) (fun h1 => ?_)
  · have H := H.1 h1
    refine r_iload (k := 6) rfl dX1_liveAt_177 ?_
    refine r_iret rfl g6 dX1_liveAt_179 ?_
    exact H
  · have H := H.2 h1
    refine r_iload (k := 7) rfl dX1_liveAt_116 ?_
    refine r_iload (k := 8) rfl dX1_liveAt_118 ?_
    refine r_iand dX1_liveAt_120 ?_
    refine r_if_eq (tgt := 168) (rg_iand _ _) dX1_liveAt_121 (by decide) (fun h2 => ?_) (fun h2 => ?_)
    · have H := H.1 h2
      refine r_iload (k := 8) rfl dX1_liveAt_168 ?_
      refine r_iconst dX1_liveAt_170 ?_
      refine r_imul dX1_liveAt_171 ?_
      obtain ⟨c3, H⟩ := H
      refine r_nm (fun y4 fy4 => ?_)
      have H := H y4 fy4
      have gy4 : sl_rg y4 := by rw [fy4]; exact c3
      refine r_istore (ls' := [(8, vI y4), (0, vR 6 0), (1, vI x1), (2, vI x2), (3, vI x3), (4, vR 6 a4), (5, vR o5 0), (6, vI x6), (7, vI x7)]) gy4 (by decide) rfl dX1_liveAt_172 ?_
      refine r_goto (tgt := 109) dX1_liveAt_174 (by decide) ?_
      exact sl_At.sub [1, 2, 3, 4, 5, 6, 7, 8, 0] rfl H
    · have H := H.2 h2
      refine r_aload (k := 5) rfl dX1_liveAt_124 ?_
      refine r_iload_n (k := 1) rfl rfl dX1_liveAt_126 ?_
      refine r_iload (k := 8) rfl dX1_liveAt_127 ?_
      refine r_iload_n (k := 2) rfl rfl dX1_liveAt_129 ?_
      refine r_iload_n (k := 3) rfl rfl dX1_liveAt_130 ?_
      refine r_callV (g := mX0_target) ckX0 ho5 rfl rfl rfl mkX0_target mvX0_target ml_X1_73 ⟨by decide, by decide⟩ rfl (Nat.le_of_ble_eq_true rfl) rfl (ok_i g1 (ok_i g8 (ok_i g2 (ok_i g3 ok_n)))) dX1_liveAt_131 (sl_afterI (sl_RI.mono (fun y6 M5 gy6 hM5 H => ?_) H))
      refine r_istore (ls' := [(9, vI y6), (0, vR 6 0), (1, vI x1), (2, vI x2), (3, vI x3), (4, vR 6 a4), (5, vR o5 0), (6, vI x6), (7, vI x7), (8, vI x8)]) gy6 (by decide) rfl dX1_liveAt_134 ?_
      refine r_iload (k := 7) rfl dX1_liveAt_136 ?_
      refine r_iload (k := 0) rfl dX1_liveAt_138 ?_
      obtain ⟨K, H⟩ := H
      have J : sl_At l mX1_liveAt 152 [(9, vI y6), (0, vR 6 0), (1, vI x1), (2, vI x2), (3, vI x3), (4, vR 6 a4), (5, vR o5 0), (6, vI x6), (7, vI x7), (8, vI x8)] [vI (if y6 < 0 then 0 else M5 6 a4 y6), vI x6] M5 Q := by
        refine r_aload_n (k := 1) rfl rfl dX1_liveAt_152 ?_
        obtain ⟨q9, ⟨wq9, zq9⟩, H⟩ := H
        refine r_getS (hw := rfl) wq9 fl_X1_28 dX1_liveAt_153 ?_
        refine r_iload_n (k := 2) rfl rfl dX1_liveAt_156 ?_
        refine r_iload (k := 9) rfl dX1_liveAt_157 ?_
        refine r_callV (g := mX7_setBy) ckX7 zq9 rfl rfl rfl mkX7_setBy mvX7_setBy ml_X1_114 ⟨by decide, by decide⟩ rfl (Nat.le_of_ble_eq_true rfl) rfl (ok_i g1 (ok_i g8 ok_n)) dX1_liveAt_159 (sl_afterI (sl_RI.mono (fun y11 M10 gy11 hM10 H => ?_) H))
        refine r_iconst dX1_liveAt_162 ?_
        refine r_ixor dX1_liveAt_163 ?_
        refine r_iand dX1_liveAt_164 ?_
        refine r_ior dX1_liveAt_165 ?_
        refine r_nm (fun y12 fy12 => ?_)
        have H := H y12 fy12
        have gy12 : sl_rg y12 := by rw [fy12]; exact (rg_ior _ _)
        refine r_istore (ls' := [(6, vI y12), (9, vI y6), (0, vR 6 0), (1, vI x1), (2, vI x2), (3, vI x3), (4, vR 6 a4), (5, vR o5 0), (7, vI x7), (8, vI x8)]) gy12 (by decide) rfl dX1_liveAt_166 ?_
        refine r_iload (k := 9) rfl dX1_liveAt_168 ?_
        refine r_iconst dX1_liveAt_170 ?_
        refine r_imul dX1_liveAt_171 ?_
        obtain ⟨c13, H⟩ := H
        refine r_nm (fun y14 fy14 => ?_)
        have H := H y14 fy14
        have gy14 : sl_rg y14 := by rw [fy14]; exact c13
        refine r_istore (ls' := [(8, vI y14), (6, vI y12), (9, vI y6), (0, vR 6 0), (1, vI x1), (2, vI x2), (3, vI x3), (4, vR 6 a4), (5, vR o5 0), (7, vI x7)]) gy14 (by decide) rfl dX1_liveAt_172 ?_
        refine r_goto (tgt := 109) dX1_liveAt_174 (by decide) ?_
        exact sl_At.sub [3, 4, 5, 6, 7, 8, 1, 9, 0] rfl H
      refine r_if_lt (tgt := 151) gy6 dX1_liveAt_140 (by decide) (fun h8 => ?_) (fun h8 => ?_)
      · refine r_iconst dX1_liveAt_151 ?_
        rw [if_pos h8] at J
        exact J
      · replace K := K h8
        have c7 := K
        refine r_aload (k := 5) rfl dX1_liveAt_143 ?_
        refine r_iload (k := 0) rfl dX1_liveAt_145 ?_
        refine r_iald rfl ha4 rfl c7 dX1_liveAt_147 ?_
        refine r_goto (tgt := 152) dX1_liveAt_148 (by decide) ?_
        rw [if_neg h8] at J
        exact J
theorem eX1_liveAt {l : Launch} {M : sl_M} {Q : sl_R} {x1 x2 x3 : Int} {a4 : Nat} (k : sl_At l mX1_liveAt 0 [(0, vR 6 0), (1, vI x1), (2, vI x2), (3, vI x3), (4, vR 6 a4)] [] M Q) : sl_Runs l mX1_liveAt [vR 6 0, vI x1, vI x2, vI x3, vR 6 a4] M Q := sl_Runs.of (ls := [(0, vR 6 0), (1, vI x1), (2, vI x2), (3, vI x3), (4, vR 6 a4)]) rfl rfl (fun _ => rfl) (fun _ => Nat.le_of_ble_eq_true rfl) rfl (k)
theorem dX4_parse_0 : decode cX4_parse 0 = .ok (.aload_n 0, 1) := by decide +kernel
theorem dX4_parse_1 : decode cX4_parse 1 = .ok (.aload_n 1, 1) := by decide +kernel
theorem dX4_parse_2 : decode cX4_parse 2 = .ok (.putfield 9, 3) := by decide +kernel
theorem dX4_parse_5 : decode cX4_parse 5 = .ok (.aload_n 0, 1) := by decide +kernel
theorem dX4_parse_6 : decode cX4_parse 6 = .ok (.iload_n 2, 1) := by decide +kernel
theorem dX4_parse_7 : decode cX4_parse 7 = .ok (.aload_n 1, 1) := by decide +kernel
theorem dX4_parse_8 : decode cX4_parse 8 = .ok (.arraylength, 1) := by decide +kernel
theorem dX4_parse_9 : decode cX4_parse 9 = .ok (.invokestatic 15, 3) := by decide +kernel
theorem dX4_parse_12 : decode cX4_parse 12 = .ok (.putfield 21, 3) := by decide +kernel
theorem dX4_parse_15 : decode cX4_parse 15 = .ok (.aload_n 0, 1) := by decide +kernel
theorem dX4_parse_16 : decode cX4_parse 16 = .ok (.aload_n 3, 1) := by decide +kernel
theorem dX4_parse_17 : decode cX4_parse 17 = .ok (.putfield 25, 3) := by decide +kernel
theorem dX4_parse_20 : decode cX4_parse 20 = .ok (.aload_n 0, 1) := by decide +kernel
theorem dX4_parse_21 : decode cX4_parse 21 = .ok (.getfield 25, 3) := by decide +kernel
theorem dX4_parse_24 : decode cX4_parse 24 = .ok (.invokevirtual 29, 3) := by decide +kernel
theorem dX4_parse_27 : decode cX4_parse 27 = .ok (.aload_n 0, 1) := by decide +kernel
theorem dX4_parse_28 : decode cX4_parse 28 = .ok (.iconst (-1), 1) := by decide +kernel
theorem dX4_parse_29 : decode cX4_parse 29 = .ok (.putfield 34, 3) := by decide +kernel
theorem dX4_parse_32 : decode cX4_parse 32 = .ok (.aload_n 0, 1) := by decide +kernel
theorem dX4_parse_33 : decode cX4_parse 33 = .ok (.iconst 0, 1) := by decide +kernel
theorem dX4_parse_34 : decode cX4_parse 34 = .ok (.putfield 37, 3) := by decide +kernel
theorem dX4_parse_37 : decode cX4_parse 37 = .ok (.iconst 0, 1) := by decide +kernel
theorem dX4_parse_38 : decode cX4_parse 38 = .ok (.istore 4, 2) := by decide +kernel
theorem dX4_parse_40 : decode cX4_parse 40 = .ok (.iload 4, 2) := by decide +kernel
theorem dX4_parse_42 : decode cX4_parse 42 = .ok (.sipush 160, 3) := by decide +kernel
theorem dX4_parse_45 : decode cX4_parse 45 = .ok (.if_icmp .gt 63, 3) := by decide +kernel
theorem dX4_parse_48 : decode cX4_parse 48 = .ok (.aload_n 0, 1) := by decide +kernel
theorem dX4_parse_49 : decode cX4_parse 49 = .ok (.invokevirtual 40, 3) := by decide +kernel
theorem dX4_parse_52 : decode cX4_parse 52 = .ok (.istore 5, 2) := by decide +kernel
theorem dX4_parse_54 : decode cX4_parse 54 = .ok (.iload 5, 2) := by decide +kernel
theorem dX4_parse_56 : decode cX4_parse 56 = .ok (.iconst (-1), 1) := by decide +kernel
theorem dX4_parse_57 : decode cX4_parse 57 = .ok (.if_icmp .ne 17, 3) := by decide +kernel
theorem dX4_parse_60 : decode cX4_parse 60 = .ok (.aload_n 0, 1) := by decide +kernel
theorem dX4_parse_61 : decode cX4_parse 61 = .ok (.getfield 34, 3) := by decide +kernel
theorem dX4_parse_64 : decode cX4_parse 64 = .ok (.iconst (-1), 1) := by decide +kernel
theorem dX4_parse_65 : decode cX4_parse 65 = .ok (.if_icmp .ne 7, 3) := by decide +kernel
theorem dX4_parse_68 : decode cX4_parse 68 = .ok (.iconst 1, 1) := by decide +kernel
theorem dX4_parse_69 : decode cX4_parse 69 = .ok (.goto 4, 3) := by decide +kernel
theorem dX4_parse_72 : decode cX4_parse 72 = .ok (.iconst 0, 1) := by decide +kernel
theorem dX4_parse_73 : decode cX4_parse 73 = .ok (.ireturn, 1) := by decide +kernel
theorem dX4_parse_74 : decode cX4_parse 74 = .ok (.iload 5, 2) := by decide +kernel
theorem dX4_parse_76 : decode cX4_parse 76 = .ok (.bipush 125, 2) := by decide +kernel
theorem dX4_parse_78 : decode cX4_parse 78 = .ok (.if_icmp .ne 13, 3) := by decide +kernel
theorem dX4_parse_81 : decode cX4_parse 81 = .ok (.aload_n 0, 1) := by decide +kernel
theorem dX4_parse_82 : decode cX4_parse 82 = .ok (.invokevirtual 44, 3) := by decide +kernel
theorem dX4_parse_85 : decode cX4_parse 85 = .ok (.ifCond .ne 17, 3) := by decide +kernel
theorem dX4_parse_88 : decode cX4_parse 88 = .ok (.goto 12, 3) := by decide +kernel
theorem dX4_parse_91 : decode cX4_parse 91 = .ok (.aload_n 0, 1) := by decide +kernel
theorem dX4_parse_92 : decode cX4_parse 92 = .ok (.iload 5, 2) := by decide +kernel
theorem dX4_parse_94 : decode cX4_parse 94 = .ok (.invokevirtual 48, 3) := by decide +kernel
theorem dX4_parse_97 : decode cX4_parse 97 = .ok (.ifCond .ne 5, 3) := by decide +kernel
theorem dX4_parse_100 : decode cX4_parse 100 = .ok (.iconst 0, 1) := by decide +kernel
theorem dX4_parse_101 : decode cX4_parse 101 = .ok (.ireturn, 1) := by decide +kernel
theorem dX4_parse_102 : decode cX4_parse 102 = .ok (.iinc 4 1, 3) := by decide +kernel
theorem dX4_parse_105 : decode cX4_parse 105 = .ok (.goto (-65), 3) := by decide +kernel
theorem dX4_parse_108 : decode cX4_parse 108 = .ok (.iconst 0, 1) := by decide +kernel
theorem dX4_parse_109 : decode cX4_parse 109 = .ok (.ireturn, 1) := by decide +kernel
set_option maxHeartbeats 4000000 in
set_option maxRecDepth 10000 in
theorem vX4_parse_0 {l : Launch} {M : sl_M} {Q : sl_R} {x2 : Int} {o3 : Nat} (ho3 : sl_cls o3 = 0) (H : sl_RM M → sl_rg x2 → (∀ M1, M1 = sl_wr M 2 0 0 1 → (∀ M2, M2 = sl_wr M1 2 0 1 (min x2 160) → (o3 < 100) ∧ (∀ M4, M4 = sl_wr M2 2 0 2 ((o3 : Nat) + 1) → (∃ q5 : Nat, (M4 2 0 2 = (q5 : Int) + 1 ∧ sl_cls q5 = 0) ∧ sl_RV l mX0_empty [vR q5 0] M4 (fun M6 => (∀ M7, M7 = sl_wr M6 2 0 3 (-1) → (∀ M8, M8 = sl_wr M7 2 0 4 0 → sl_At l mX4_parse 40 [(0, vR 2 0), (4, vI 0)] [] M8 Q)))))))) : sl_At l mX4_parse 0 [(0, vR 2 0), (1, vR 0 1), (2, vI x2), (3, vR o3 0)] [] M Q := by
  refine sl_At.in (fun hM hls => ?_)
  have g2 : sl_rg x2 := hls _ (List.mem_of_getElem? (i := 2) rfl)
  have H := H hM g2
  refine r_aload_n (k := 0) rfl rfl dX4_parse_0 ?_
  refine r_aload_n (k := 1) rfl rfl dX4_parse_1 ?_
  refine r_putT rfl rfl fl_X4_9 dX4_parse_2 ?_
  refine r_mm (fun M1 e1 => ?_)
  have H := H M1 e1
  have hM1 : sl_RM M1 := by rw [e1]; exact sl_wr_RM hM ⟨by decide, by decide⟩
  refine r_aload_n (k := 0) rfl rfl dX4_parse_5 ?_
  refine r_iload_n (k := 2) rfl rfl dX4_parse_6 ?_
  refine r_aload_n (k := 1) rfl rfl dX4_parse_7 ?_
  refine r_aL (n := 160) (nz := 160) rfl rfl rfl rfl rfl dX4_parse_8 ?_
  refine r_min g2 ⟨by decide, by decide⟩ ml_X4_15 w_min1 w_min2 w_min3 ⟨by decide, Nat.le_of_ble_eq_true rfl⟩ dX4_parse_9 ?_
  refine r_pI (k := 1) (kz := 1) rfl ckX4 rfl rfl (by decide) rfl rfl rfl rfl fl_X4_21 (sl_rgmin g2 ⟨by decide, by decide⟩) dX4_parse_12 ?_
  refine r_mm (fun M2 e2 => ?_)
  have H := H M2 e2
  have hM2 : sl_RM M2 := by rw [e2]; exact sl_wr_RM hM1 (sl_rgmin g2 ⟨by decide, by decide⟩)
  refine r_aload_n (k := 0) rfl rfl dX4_parse_15 ?_
  refine r_aload_n (k := 3) rfl rfl dX4_parse_16 ?_
  obtain ⟨c3, H⟩ := H
  refine r_putC rfl rfl c3 fl_X4_25 dX4_parse_17 ?_
  refine r_mm (fun M4 e4 => ?_)
  have H := H M4 e4
  have hM4 : sl_RM M4 := by rw [e4]; exact sl_wr_RM hM2 (sl_rg100 c3)
  refine r_aload_n (k := 0) rfl rfl dX4_parse_20 ?_
  obtain ⟨q5, ⟨wq5, zq5⟩, H⟩ := H
  refine r_getC (hw := rfl) wq5 fl_X4_25 dX4_parse_21 ?_
  refine r_callV (g := mX0_empty) ckX0 zq5 rfl rfl rfl mkX0_empty mvX0_empty ml_X4_29 ⟨by decide, by decide⟩ rfl (Nat.le_of_ble_eq_true rfl) rfl ok_n dX4_parse_24 (sl_afterV (sl_RV.mono (fun M6 hM6 H => ?_) H))
  refine r_aload_n (k := 0) rfl rfl dX4_parse_27 ?_
  refine r_iconst dX4_parse_28 ?_
  refine r_pI (k := 3) (kz := 3) rfl ckX4 rfl rfl (by decide) rfl rfl rfl rfl fl_X4_34 ⟨by decide, by decide⟩ dX4_parse_29 ?_
  refine r_mm (fun M7 e7 => ?_)
  have H := H M7 e7
  have hM7 : sl_RM M7 := by rw [e7]; exact sl_wr_RM hM6 ⟨by decide, by decide⟩
  refine r_aload_n (k := 0) rfl rfl dX4_parse_32 ?_
  refine r_iconst dX4_parse_33 ?_
  refine r_pI (k := 4) (kz := 4) rfl ckX4 rfl rfl (by decide) rfl rfl rfl rfl fl_X4_37 ⟨by decide, by decide⟩ dX4_parse_34 ?_
  refine r_mm (fun M8 e8 => ?_)
  have H := H M8 e8
  have hM8 : sl_RM M8 := by rw [e8]; exact sl_wr_RM hM7 ⟨by decide, by decide⟩
  refine r_iconst dX4_parse_37 ?_
  refine r_istore (ls' := [(4, vI 0), (0, vR 2 0), (1, vR 0 1), (2, vI x2), (3, vR o3 0)]) ⟨by decide, by decide⟩ (by decide) rfl dX4_parse_38 ?_
  exact sl_At.sub [1, 0] rfl H
set_option maxHeartbeats 4000000 in
set_option maxRecDepth 10000 in
theorem vX4_parse_40 {l : Launch} {M : sl_M} {Q : sl_R} {x4 : Int} (H : sl_RM M → sl_rg x4 → ((160 < x4) → Q (some (vI 0)) M) ∧ ((¬ (160 < x4)) → sl_RI l mX4_look [vR 2 0] M (fun y3 M2 => ((y3 ≠ (-1)) → ((y3 ≠ 125) → sl_RI l mX4_readStatement [vR 2 0, vI y3] M2 (fun y7 M6 => ((y7 ≠ 0) → (sl_rg (x4 + 1)) ∧ sl_At l mX4_parse 40 [(0, vR 2 0), (4, vI (x4 + 1))] [] M6 Q) ∧ ((¬ (y7 ≠ 0)) → Q (some (vI 0)) M6))) ∧ ((¬ (y3 ≠ 125)) → sl_RI l mX4_closeBlock [vR 2 0] M2 (fun y11 M10 => ((y11 ≠ 0) → (sl_rg (x4 + 1)) ∧ sl_At l mX4_parse 40 [(0, vR 2 0), (4, vI (x4 + 1))] [] M10 Q) ∧ ((¬ (y11 ≠ 0)) → Q (some (vI 0)) M10)))) ∧ ((¬ (y3 ≠ (-1))) → Q (some (vI (if ¬ (M2 2 0 3 ≠ (-1)) then 1 else 0))) M2)))) : sl_At l mX4_parse 40 [(0, vR 2 0), (4, vI x4)] [] M Q := by
  refine sl_At.in (fun hM hls => ?_)
  have g4 : sl_rg x4 := hls _ (List.mem_of_getElem? (i := 1) rfl)
  have H := H hM g4
  refine r_iload (k := 1) rfl dX4_parse_40 ?_
  refine r_sipush dX4_parse_42 (by decide) ?_
  refine r_icmp_gt (tgt := 108) g4 ⟨by decide, by decide⟩ dX4_parse_45 (by decide) (fun h1 => ?_) (fun h1 => ?_)
  · have H := H.1 h1
    refine r_iconst dX4_parse_108 ?_
    refine r_zret rfl (Or.inl rfl) dX4_parse_109 ?_
    exact H
  · have H := H.2 h1
    refine r_aload_n (k := 0) rfl rfl dX4_parse_48 ?_
    refine r_callV (g := mX4_look) ckX4 rfl rfl rfl rfl mkX4_look mvX4_look ml_X4_40 ⟨by decide, by decide⟩ rfl (Nat.le_of_ble_eq_true rfl) rfl ok_n dX4_parse_49 (sl_afterI (sl_RI.mono (fun y3 M2 gy3 hM2 H => ?_) H))
    refine r_istore (ls' := [(5, vI y3), (0, vR 2 0), (4, vI x4)]) gy3 (by decide) rfl dX4_parse_52 ?_
    refine r_iload (k := 0) rfl dX4_parse_54 ?_
    refine r_iconst dX4_parse_56 ?_
    refine r_icmp_ne (tgt := 74) gy3 ⟨by decide, by decide⟩ dX4_parse_57 (by decide) (fun h4 => ?_) (fun h4 => ?_)
    · have H := H.1 h4
      refine r_iload (k := 0) rfl dX4_parse_74 ?_
      refine r_bipush dX4_parse_76 (by decide) ?_
      refine r_icmp_ne (tgt := 91) gy3 ⟨by decide, by decide⟩ dX4_parse_78 (by decide) (fun h5 => ?_) (fun h5 => ?_)
      · have H := H.1 h5
        refine r_aload_n (k := 1) rfl rfl dX4_parse_91 ?_
        refine r_iload (k := 0) rfl dX4_parse_92 ?_
        refine r_callV (g := mX4_readStatement) ckX4 rfl rfl rfl rfl mkX4_readStatement mvX4_readStatement ml_X4_48 ⟨by decide, by decide⟩ rfl (Nat.le_of_ble_eq_true rfl) rfl (ok_i gy3 ok_n) dX4_parse_94 (sl_afterI (sl_RI.mono (fun y7 M6 gy7 hM6 H => ?_) H))
        refine r_if_ne (tgt := 102) gy7 dX4_parse_97 (by decide) (fun h8 => ?_) (fun h8 => ?_)
        · have H := H.1 h8
          obtain ⟨c9, H⟩ := H
          refine r_iinc (k := 2) (ls' := [(4, vI (x4 + 1)), (5, vI y3), (0, vR 2 0)]) rfl c9 (by decide) rfl dX4_parse_102 ?_
          refine r_goto (tgt := 40) dX4_parse_105 (by decide) ?_
          exact sl_At.sub [2, 0] rfl H
        · have H := H.2 h8
          refine r_iconst dX4_parse_100 ?_
          refine r_zret rfl (Or.inl rfl) dX4_parse_101 ?_
          exact H
      · have H := H.2 h5
        refine r_aload_n (k := 1) rfl rfl dX4_parse_81 ?_
        refine r_callV (g := mX4_closeBlock) ckX4 rfl rfl rfl rfl mkX4_closeBlock mvX4_closeBlock ml_X4_44 ⟨by decide, by decide⟩ rfl (Nat.le_of_ble_eq_true rfl) rfl ok_n dX4_parse_82 (sl_afterI (sl_RI.mono (fun y11 M10 gy11 hM10 H => ?_) H))
        refine r_if_ne (tgt := 102) gy11 dX4_parse_85 (by decide) (fun h12 => ?_) (fun h12 => ?_)
        · have H := H.1 h12
          obtain ⟨c13, H⟩ := H
          refine r_iinc (k := 2) (ls' := [(4, vI (x4 + 1)), (5, vI y3), (0, vR 2 0)]) rfl c13 (by decide) rfl dX4_parse_102 ?_
          refine r_goto (tgt := 40) dX4_parse_105 (by decide) ?_
          exact sl_At.sub [2, 0] rfl H
        · have H := H.2 h12
          refine r_goto (tgt := 100) dX4_parse_88 (by decide) ?_
          refine r_iconst dX4_parse_100 ?_
          refine r_zret rfl (Or.inl rfl) dX4_parse_101 ?_
          exact H
    · have H := H.2 h4
      refine r_aload_n (k := 1) rfl rfl dX4_parse_60 ?_
      refine r_gI (k := 3) (kz := 3) rfl ckX4 rfl rfl (by decide) rfl rfl fl_X4_34 dX4_parse_61 ?_
      refine r_iconst dX4_parse_64 ?_
      have J : sl_At l mX4_parse 73 [(5, vI y3), (0, vR 2 0), (4, vI x4)] [vI (if ¬ (M2 2 0 3 ≠ (-1)) then 1 else 0)] M2 Q := by
        refine r_zret rfl b_01 dX4_parse_73 ?_
        exact H
      refine r_icmp_ne (tgt := 72) (hM2 _ _ _) ⟨by decide, by decide⟩ dX4_parse_65 (by decide) (fun h14 => ?_) (fun h14 => ?_)
      · refine r_iconst dX4_parse_72 ?_
        rw [if_neg (show ¬ (¬ (M2 2 0 3 ≠ (-1))) by omega)] at J
        exact J
      · refine r_iconst dX4_parse_68 ?_
        refine r_goto (tgt := 73) dX4_parse_69 (by decide) ?_
        rw [if_pos (show ¬ (M2 2 0 3 ≠ (-1)) by omega)] at J
        exact J
theorem eX4_parse {l : Launch} {M : sl_M} {Q : sl_R} {x2 : Int} {o3 : Nat} (k : sl_At l mX4_parse 0 [(0, vR 2 0), (1, vR 0 1), (2, vI x2), (3, vR o3 0)] [] M Q) : sl_Runs l mX4_parse [vR 2 0, vR 0 1, vI x2, vR o3 0] M Q := sl_Runs.of (ls := [(0, vR 2 0), (1, vR 0 1), (2, vI x2), (3, vR o3 0)]) rfl rfl (fun _ => rfl) (fun _ => Nat.le_of_ble_eq_true rfl) rfl (k)
theorem dX4_look_0 : decode cX4_look 0 = .ok (.aload_n 0, 1) := by decide +kernel
theorem dX4_look_1 : decode cX4_look 1 = .ok (.getfield 37, 3) := by decide +kernel
theorem dX4_look_4 : decode cX4_look 4 = .ok (.aload_n 0, 1) := by decide +kernel
theorem dX4_look_5 : decode cX4_look 5 = .ok (.getfield 21, 3) := by decide +kernel
theorem dX4_look_8 : decode cX4_look 8 = .ok (.if_icmp .ge 30, 3) := by decide +kernel
theorem dX4_look_11 : decode cX4_look 11 = .ok (.aload_n 0, 1) := by decide +kernel
theorem dX4_look_12 : decode cX4_look 12 = .ok (.getfield 9, 3) := by decide +kernel
theorem dX4_look_15 : decode cX4_look 15 = .ok (.aload_n 0, 1) := by decide +kernel
theorem dX4_look_16 : decode cX4_look 16 = .ok (.getfield 37, 3) := by decide +kernel
theorem dX4_look_19 : decode cX4_look 19 = .ok (.iaload, 1) := by decide +kernel
theorem dX4_look_20 : decode cX4_look 20 = .ok (.bipush 32, 2) := by decide +kernel
theorem dX4_look_22 : decode cX4_look 22 = .ok (.if_icmp .ne 16, 3) := by decide +kernel
theorem dX4_look_25 : decode cX4_look 25 = .ok (.aload_n 0, 1) := by decide +kernel
theorem dX4_look_26 : decode cX4_look 26 = .ok (.dup, 1) := by decide +kernel
theorem dX4_look_27 : decode cX4_look 27 = .ok (.getfield 37, 3) := by decide +kernel
theorem dX4_look_30 : decode cX4_look 30 = .ok (.iconst 1, 1) := by decide +kernel
theorem dX4_look_31 : decode cX4_look 31 = .ok (.iadd, 1) := by decide +kernel
theorem dX4_look_32 : decode cX4_look 32 = .ok (.putfield 37, 3) := by decide +kernel
theorem dX4_look_35 : decode cX4_look 35 = .ok (.goto (-35), 3) := by decide +kernel
theorem dX4_look_38 : decode cX4_look 38 = .ok (.aload_n 0, 1) := by decide +kernel
theorem dX4_look_39 : decode cX4_look 39 = .ok (.getfield 37, 3) := by decide +kernel
theorem dX4_look_42 : decode cX4_look 42 = .ok (.aload_n 0, 1) := by decide +kernel
theorem dX4_look_43 : decode cX4_look 43 = .ok (.getfield 21, 3) := by decide +kernel
theorem dX4_look_46 : decode cX4_look 46 = .ok (.if_icmp .ge 15, 3) := by decide +kernel
theorem dX4_look_49 : decode cX4_look 49 = .ok (.aload_n 0, 1) := by decide +kernel
theorem dX4_look_50 : decode cX4_look 50 = .ok (.getfield 9, 3) := by decide +kernel
theorem dX4_look_53 : decode cX4_look 53 = .ok (.aload_n 0, 1) := by decide +kernel
theorem dX4_look_54 : decode cX4_look 54 = .ok (.getfield 37, 3) := by decide +kernel
theorem dX4_look_57 : decode cX4_look 57 = .ok (.iaload, 1) := by decide +kernel
theorem dX4_look_58 : decode cX4_look 58 = .ok (.goto 4, 3) := by decide +kernel
theorem dX4_look_61 : decode cX4_look 61 = .ok (.iconst (-1), 1) := by decide +kernel
theorem dX4_look_62 : decode cX4_look 62 = .ok (.ireturn, 1) := by decide +kernel
set_option maxHeartbeats 4000000 in
set_option maxRecDepth 10000 in
theorem vX4_look_0 {l : Launch} {M : sl_M} {Q : sl_R} (H : sl_RM M → ((M 2 0 1 ≤ M 2 0 4) → ((M 2 0 1 ≤ M 2 0 4) → Q (some (vI (-1))) M) ∧ ((¬ (M 2 0 1 ≤ M 2 0 4)) → (M 2 0 0 ≠ 0) ∧ (0 ≤ M 2 0 4 ∧ M 2 0 4 < 160) ∧ Q (some (vI (M 0 1 (M 2 0 4)))) M)) ∧ ((¬ (M 2 0 1 ≤ M 2 0 4)) → (M 2 0 0 ≠ 0) ∧ (0 ≤ M 2 0 4 ∧ M 2 0 4 < 160) ∧ ((M 0 1 (M 2 0 4) ≠ 32) → ((M 2 0 1 ≤ M 2 0 4) → Q (some (vI (-1))) M) ∧ ((¬ (M 2 0 1 ≤ M 2 0 4)) → Q (some (vI (M 0 1 (M 2 0 4)))) M)) ∧ ((¬ (M 0 1 (M 2 0 4) ≠ 32)) → (sl_rg (M 2 0 4 + 1)) ∧ (∀ M10, M10 = sl_wr M 2 0 4 (M 2 0 4 + 1) → sl_At l mX4_look 0 [(0, vR 2 0)] [] M10 Q)))) : sl_At l mX4_look 0 [(0, vR 2 0)] [] M Q := by
  refine sl_At.in (fun hM hls => ?_)
  have H := H hM
  refine r_aload_n (k := 0) rfl rfl dX4_look_0 ?_
  refine r_gI (k := 4) (kz := 4) rfl ckX4 rfl rfl (by decide) rfl rfl fl_X4_37 dX4_look_1 ?_
  refine r_aload_n (k := 0) rfl rfl dX4_look_4 ?_
  refine r_gI (k := 1) (kz := 1) rfl ckX4 rfl rfl (by decide) rfl rfl fl_X4_21 dX4_look_5 ?_
  refine r_icmp_ge (tgt := 38) (hM _ _ _) (hM _ _ _) dX4_look_8 (by decide) (fun h1 => ?_) (fun h1 => ?_)
  · have H := H.1 h1
    refine r_aload_n (k := 0) rfl rfl dX4_look_38 ?_
    refine r_gI (k := 4) (kz := 4) rfl ckX4 rfl rfl (by decide) rfl rfl fl_X4_37 dX4_look_39 ?_
    refine r_aload_n (k := 0) rfl rfl dX4_look_42 ?_
    refine r_gI (k := 1) (kz := 1) rfl ckX4 rfl rfl (by decide) rfl rfl fl_X4_21 dX4_look_43 ?_
    refine r_icmp_ge (tgt := 61) (hM _ _ _) (hM _ _ _) dX4_look_46 (by decide) (fun h2 => ?_) (fun h2 => ?_)
    · have H := H.1 h2
      refine r_iconst dX4_look_61 ?_
      refine r_iret rfl ⟨by decide, by decide⟩ dX4_look_62 ?_
      exact H
    · have H := H.2 h2
      refine r_aload_n (k := 0) rfl rfl dX4_look_49 ?_
      obtain ⟨c3, H⟩ := H
      refine r_getT (hw := rfl) c3 fl_X4_9 dX4_look_50 ?_
      refine r_aload_n (k := 0) rfl rfl dX4_look_53 ?_
      refine r_gI (k := 4) (kz := 4) rfl ckX4 rfl rfl (by decide) rfl rfl fl_X4_37 dX4_look_54 ?_
      obtain ⟨c4, H⟩ := H
      refine r_iald rfl rfl rfl c4 dX4_look_57 ?_
      refine r_goto (tgt := 62) dX4_look_58 (by decide) ?_
      refine r_iret rfl (hM _ _ _) dX4_look_62 ?_
      exact H
  · have H := H.2 h1
    refine r_aload_n (k := 0) rfl rfl dX4_look_11 ?_
    obtain ⟨c5, H⟩ := H
    refine r_getT (hw := rfl) c5 fl_X4_9 dX4_look_12 ?_
    refine r_aload_n (k := 0) rfl rfl dX4_look_15 ?_
    refine r_gI (k := 4) (kz := 4) rfl ckX4 rfl rfl (by decide) rfl rfl fl_X4_37 dX4_look_16 ?_
    obtain ⟨c6, H⟩ := H
    refine r_iald rfl rfl rfl c6 dX4_look_19 ?_
    refine r_bipush dX4_look_20 (by decide) ?_
    refine r_icmp_ne (tgt := 38) (hM _ _ _) ⟨by decide, by decide⟩ dX4_look_22 (by decide) (fun h7 => ?_) (fun h7 => ?_)
    · have H := H.1 h7
      refine r_aload_n (k := 0) rfl rfl dX4_look_38 ?_
      refine r_gI (k := 4) (kz := 4) rfl ckX4 rfl rfl (by decide) rfl rfl fl_X4_37 dX4_look_39 ?_
      refine r_aload_n (k := 0) rfl rfl dX4_look_42 ?_
      refine r_gI (k := 1) (kz := 1) rfl ckX4 rfl rfl (by decide) rfl rfl fl_X4_21 dX4_look_43 ?_
      refine r_icmp_ge (tgt := 61) (hM _ _ _) (hM _ _ _) dX4_look_46 (by decide) (fun h8 => ?_) (fun h8 => ?_)
      · have H := H.1 h8
        refine r_iconst dX4_look_61 ?_
        refine r_iret rfl ⟨by decide, by decide⟩ dX4_look_62 ?_
        exact H
      · have H := H.2 h8
        refine r_aload_n (k := 0) rfl rfl dX4_look_49 ?_
        refine r_getT (hw := rfl) c5 fl_X4_9 dX4_look_50 ?_
        refine r_aload_n (k := 0) rfl rfl dX4_look_53 ?_
        refine r_gI (k := 4) (kz := 4) rfl ckX4 rfl rfl (by decide) rfl rfl fl_X4_37 dX4_look_54 ?_
        refine r_iald rfl rfl rfl c6 dX4_look_57 ?_
        refine r_goto (tgt := 62) dX4_look_58 (by decide) ?_
        refine r_iret rfl (hM _ _ _) dX4_look_62 ?_
        exact H
    · have H := H.2 h7
      refine r_aload_n (k := 0) rfl rfl dX4_look_25 ?_
      refine r_dup rfl dX4_look_26 ?_
      refine r_gI (k := 4) (kz := 4) rfl ckX4 rfl rfl (by decide) rfl rfl fl_X4_37 dX4_look_27 ?_
      refine r_iconst dX4_look_30 ?_
      refine r_iadd dX4_look_31 ?_
      obtain ⟨c9, H⟩ := H
      refine r_pI (k := 4) (kz := 4) rfl ckX4 rfl rfl (by decide) rfl rfl rfl rfl fl_X4_37 c9 dX4_look_32 ?_
      refine r_mm (fun M10 e10 => ?_)
      have H := H M10 e10
      have hM10 : sl_RM M10 := by rw [e10]; exact sl_wr_RM hM c9
      refine r_goto (tgt := 0) dX4_look_35 (by decide) ?_
      exact H
theorem eX4_look {l : Launch} {M : sl_M} {Q : sl_R}  (k : sl_At l mX4_look 0 [(0, vR 2 0)] [] M Q) : sl_Runs l mX4_look [vR 2 0] M Q := sl_Runs.of (ls := [(0, vR 2 0)]) rfl rfl (fun _ => rfl) (fun _ => Nat.le_of_ble_eq_true rfl) rfl (k)
theorem dX4_expect_0 : decode cX4_expect 0 = .ok (.aload_n 0, 1) := by decide +kernel
theorem dX4_expect_1 : decode cX4_expect 1 = .ok (.invokevirtual 40, 3) := by decide +kernel
theorem dX4_expect_4 : decode cX4_expect 4 = .ok (.iload_n 1, 1) := by decide +kernel
theorem dX4_expect_5 : decode cX4_expect 5 = .ok (.if_icmp .eq 5, 3) := by decide +kernel
theorem dX4_expect_8 : decode cX4_expect 8 = .ok (.iconst 0, 1) := by decide +kernel
theorem dX4_expect_9 : decode cX4_expect 9 = .ok (.ireturn, 1) := by decide +kernel
theorem dX4_expect_10 : decode cX4_expect 10 = .ok (.aload_n 0, 1) := by decide +kernel
theorem dX4_expect_11 : decode cX4_expect 11 = .ok (.dup, 1) := by decide +kernel
theorem dX4_expect_12 : decode cX4_expect 12 = .ok (.getfield 37, 3) := by decide +kernel
theorem dX4_expect_15 : decode cX4_expect 15 = .ok (.iconst 1, 1) := by decide +kernel
theorem dX4_expect_16 : decode cX4_expect 16 = .ok (.iadd, 1) := by decide +kernel
theorem dX4_expect_17 : decode cX4_expect 17 = .ok (.putfield 37, 3) := by decide +kernel
theorem dX4_expect_20 : decode cX4_expect 20 = .ok (.iconst 1, 1) := by decide +kernel
theorem dX4_expect_21 : decode cX4_expect 21 = .ok (.ireturn, 1) := by decide +kernel
set_option maxHeartbeats 4000000 in
set_option maxRecDepth 10000 in
theorem vX4_expect_0 {l : Launch} {M : sl_M} {Q : sl_R} {x1 : Int} (H : sl_RM M → sl_rg x1 → sl_RI l mX4_look [vR 2 0] M (fun y2 M1 => ((y2 = x1) → (sl_rg (M1 2 0 4 + 1)) ∧ (∀ M5, M5 = sl_wr M1 2 0 4 (M1 2 0 4 + 1) → Q (some (vI 1)) M5)) ∧ ((¬ (y2 = x1)) → Q (some (vI 0)) M1))) : sl_At l mX4_expect 0 [(0, vR 2 0), (1, vI x1)] [] M Q := by
  refine sl_At.in (fun hM hls => ?_)
  have g1 : sl_rg x1 := hls _ (List.mem_of_getElem? (i := 1) rfl)
  have H := H hM g1
  refine r_aload_n (k := 0) rfl rfl dX4_expect_0 ?_
  refine r_callV (g := mX4_look) ckX4 rfl rfl rfl rfl mkX4_look mvX4_look ml_X4_40 ⟨by decide, by decide⟩ rfl (Nat.le_of_ble_eq_true rfl) rfl ok_n dX4_expect_1 (sl_afterI (sl_RI.mono (fun y2 M1 gy2 hM1 H => ?_) H))
  refine r_iload_n (k := 1) rfl rfl dX4_expect_4 ?_
  refine r_icmp_eq (tgt := 10) gy2 g1 dX4_expect_5 (by decide) (fun h3 => ?_) (fun h3 => ?_)
  · have H := H.1 h3
    refine r_aload_n (k := 0) rfl rfl dX4_expect_10 ?_
    refine r_dup rfl dX4_expect_11 ?_
    refine r_gI (k := 4) (kz := 4) rfl ckX4 rfl rfl (by decide) rfl rfl fl_X4_37 dX4_expect_12 ?_
    refine r_iconst dX4_expect_15 ?_
    refine r_iadd dX4_expect_16 ?_
    obtain ⟨c4, H⟩ := H
    refine r_pI (k := 4) (kz := 4) rfl ckX4 rfl rfl (by decide) rfl rfl rfl rfl fl_X4_37 c4 dX4_expect_17 ?_
    refine r_mm (fun M5 e5 => ?_)
    have H := H M5 e5
    have hM5 : sl_RM M5 := by rw [e5]; exact sl_wr_RM hM1 c4
    refine r_iconst dX4_expect_20 ?_
    refine r_zret rfl (Or.inr rfl) dX4_expect_21 ?_
    exact H
  · have H := H.2 h3
    refine r_iconst dX4_expect_8 ?_
    refine r_zret rfl (Or.inl rfl) dX4_expect_9 ?_
    exact H
theorem eX4_expect {l : Launch} {M : sl_M} {Q : sl_R} {x1 : Int} (k : sl_At l mX4_expect 0 [(0, vR 2 0), (1, vI x1)] [] M Q) : sl_Runs l mX4_expect [vR 2 0, vI x1] M Q := sl_Runs.of (ls := [(0, vR 2 0), (1, vI x1)]) rfl rfl (fun _ => rfl) (fun _ => Nat.le_of_ble_eq_true rfl) rfl (k)
theorem dX4_closeBlock_0 : decode cX4_closeBlock 0 = .ok (.aload_n 0, 1) := by decide +kernel
theorem dX4_closeBlock_1 : decode cX4_closeBlock 1 = .ok (.getfield 34, 3) := by decide +kernel
theorem dX4_closeBlock_4 : decode cX4_closeBlock 4 = .ok (.iconst (-1), 1) := by decide +kernel
theorem dX4_closeBlock_5 : decode cX4_closeBlock 5 = .ok (.if_icmp .ne 5, 3) := by decide +kernel
theorem dX4_closeBlock_8 : decode cX4_closeBlock 8 = .ok (.iconst 0, 1) := by decide +kernel
theorem dX4_closeBlock_9 : decode cX4_closeBlock 9 = .ok (.ireturn, 1) := by decide +kernel
theorem dX4_closeBlock_10 : decode cX4_closeBlock 10 = .ok (.aload_n 0, 1) := by decide +kernel
theorem dX4_closeBlock_11 : decode cX4_closeBlock 11 = .ok (.dup, 1) := by decide +kernel
theorem dX4_closeBlock_12 : decode cX4_closeBlock 12 = .ok (.getfield 37, 3) := by decide +kernel
theorem dX4_closeBlock_15 : decode cX4_closeBlock 15 = .ok (.iconst 1, 1) := by decide +kernel
theorem dX4_closeBlock_16 : decode cX4_closeBlock 16 = .ok (.iadd, 1) := by decide +kernel
theorem dX4_closeBlock_17 : decode cX4_closeBlock 17 = .ok (.putfield 37, 3) := by decide +kernel
theorem dX4_closeBlock_20 : decode cX4_closeBlock 20 = .ok (.aload_n 0, 1) := by decide +kernel
theorem dX4_closeBlock_21 : decode cX4_closeBlock 21 = .ok (.getfield 25, 3) := by decide +kernel
theorem dX4_closeBlock_24 : decode cX4_closeBlock 24 = .ok (.getfield 52, 3) := by decide +kernel
theorem dX4_closeBlock_27 : decode cX4_closeBlock 27 = .ok (.aload_n 0, 1) := by decide +kernel
theorem dX4_closeBlock_28 : decode cX4_closeBlock 28 = .ok (.getfield 34, 3) := by decide +kernel
theorem dX4_closeBlock_31 : decode cX4_closeBlock 31 = .ok (.iaload, 1) := by decide +kernel
theorem dX4_closeBlock_32 : decode cX4_closeBlock 32 = .ok (.iconst 5, 1) := by decide +kernel
theorem dX4_closeBlock_33 : decode cX4_closeBlock 33 = .ok (.if_icmp .ne 43, 3) := by decide +kernel
theorem dX4_closeBlock_36 : decode cX4_closeBlock 36 = .ok (.aload_n 0, 1) := by decide +kernel
theorem dX4_closeBlock_37 : decode cX4_closeBlock 37 = .ok (.getfield 25, 3) := by decide +kernel
theorem dX4_closeBlock_40 : decode cX4_closeBlock 40 = .ok (.getfield 55, 3) := by decide +kernel
theorem dX4_closeBlock_43 : decode cX4_closeBlock 43 = .ok (.aload_n 0, 1) := by decide +kernel
theorem dX4_closeBlock_44 : decode cX4_closeBlock 44 = .ok (.getfield 34, 3) := by decide +kernel
theorem dX4_closeBlock_47 : decode cX4_closeBlock 47 = .ok (.iaload, 1) := by decide +kernel
theorem dX4_closeBlock_48 : decode cX4_closeBlock 48 = .ok (.ifCond .ne 28, 3) := by decide +kernel
theorem dX4_closeBlock_51 : decode cX4_closeBlock 51 = .ok (.aload_n 0, 1) := by decide +kernel
theorem dX4_closeBlock_52 : decode cX4_closeBlock 52 = .ok (.bipush 123, 2) := by decide +kernel
theorem dX4_closeBlock_54 : decode cX4_closeBlock 54 = .ok (.invokevirtual 58, 3) := by decide +kernel
theorem dX4_closeBlock_57 : decode cX4_closeBlock 57 = .ok (.ifCond .eq 19, 3) := by decide +kernel
theorem dX4_closeBlock_60 : decode cX4_closeBlock 60 = .ok (.aload_n 0, 1) := by decide +kernel
theorem dX4_closeBlock_61 : decode cX4_closeBlock 61 = .ok (.getfield 25, 3) := by decide +kernel
theorem dX4_closeBlock_64 : decode cX4_closeBlock 64 = .ok (.getfield 55, 3) := by decide +kernel
theorem dX4_closeBlock_67 : decode cX4_closeBlock 67 = .ok (.aload_n 0, 1) := by decide +kernel
theorem dX4_closeBlock_68 : decode cX4_closeBlock 68 = .ok (.getfield 34, 3) := by decide +kernel
theorem dX4_closeBlock_71 : decode cX4_closeBlock 71 = .ok (.iconst 1, 1) := by decide +kernel
theorem dX4_closeBlock_72 : decode cX4_closeBlock 72 = .ok (.iastore, 1) := by decide +kernel
theorem dX4_closeBlock_73 : decode cX4_closeBlock 73 = .ok (.goto 19, 3) := by decide +kernel
theorem dX4_closeBlock_76 : decode cX4_closeBlock 76 = .ok (.aload_n 0, 1) := by decide +kernel
theorem dX4_closeBlock_77 : decode cX4_closeBlock 77 = .ok (.aload_n 0, 1) := by decide +kernel
theorem dX4_closeBlock_78 : decode cX4_closeBlock 78 = .ok (.getfield 25, 3) := by decide +kernel
theorem dX4_closeBlock_81 : decode cX4_closeBlock 81 = .ok (.getfield 61, 3) := by decide +kernel
theorem dX4_closeBlock_84 : decode cX4_closeBlock 84 = .ok (.aload_n 0, 1) := by decide +kernel
theorem dX4_closeBlock_85 : decode cX4_closeBlock 85 = .ok (.getfield 34, 3) := by decide +kernel
theorem dX4_closeBlock_88 : decode cX4_closeBlock 88 = .ok (.iaload, 1) := by decide +kernel
theorem dX4_closeBlock_89 : decode cX4_closeBlock 89 = .ok (.putfield 34, 3) := by decide +kernel
theorem dX4_closeBlock_92 : decode cX4_closeBlock 92 = .ok (.iconst 1, 1) := by decide +kernel
theorem dX4_closeBlock_93 : decode cX4_closeBlock 93 = .ok (.ireturn, 1) := by decide +kernel
set_option maxHeartbeats 4000000 in
set_option maxRecDepth 10000 in
theorem vX4_closeBlock_0 {l : Launch} {M : sl_M} {Q : sl_R} (H : sl_RM M → ((M 2 0 3 ≠ (-1)) → (sl_rg (M 2 0 4 + 1)) ∧ (∀ M3, M3 = sl_wr M 2 0 4 (M 2 0 4 + 1) → (∃ q4 : Nat, (M3 2 0 2 = (q4 : Int) + 1 ∧ sl_cls q4 = 0) ∧ (0 ≤ M3 2 0 3 ∧ M3 2 0 3 < 40) ∧ ((M3 q4 1 (M3 2 0 3) ≠ 5) → (∀ M7, M7 = sl_wr M3 2 0 3 (M3 q4 2 (M3 2 0 3)) → Q (some (vI 1)) M7)) ∧ ((¬ (M3 q4 1 (M3 2 0 3) ≠ 5)) → ((M3 q4 5 (M3 2 0 3) ≠ 0) → (∀ M9, M9 = sl_wr M3 2 0 3 (M3 q4 2 (M3 2 0 3)) → Q (some (vI 1)) M9)) ∧ ((¬ (M3 q4 5 (M3 2 0 3) ≠ 0)) → sl_RI l mX4_expect [vR 2 0, vI 123] M3 (fun y11 M10 => ((y11 = 0) → (∃ q13 : Nat, (M10 2 0 2 = (q13 : Int) + 1 ∧ sl_cls q13 = 0) ∧ (0 ≤ M10 2 0 3 ∧ M10 2 0 3 < 40) ∧ (∀ M15, M15 = sl_wr M10 2 0 3 (M10 q13 2 (M10 2 0 3)) → Q (some (vI 1)) M15))) ∧ ((¬ (y11 = 0)) → (∃ q16 : Nat, (M10 2 0 2 = (q16 : Int) + 1 ∧ sl_cls q16 = 0) ∧ (0 ≤ M10 2 0 3 ∧ M10 2 0 3 < 40) ∧ (∀ M18, M18 = sl_wr M10 q16 5 (M10 2 0 3) 1 → Q (some (vI 1)) M18))))))))) ∧ ((¬ (M 2 0 3 ≠ (-1))) → Q (some (vI 0)) M)) : sl_At l mX4_closeBlock 0 [(0, vR 2 0)] [] M Q := by
  refine sl_At.in (fun hM hls => ?_)
  have H := H hM
  refine r_aload_n (k := 0) rfl rfl dX4_closeBlock_0 ?_
  refine r_gI (k := 3) (kz := 3) rfl ckX4 rfl rfl (by decide) rfl rfl fl_X4_34 dX4_closeBlock_1 ?_
  refine r_iconst dX4_closeBlock_4 ?_
  refine r_icmp_ne (tgt := 10) (hM _ _ _) ⟨by decide, by decide⟩ dX4_closeBlock_5 (by decide) (fun h1 => ?_) (fun h1 => ?_)
  · have H := H.1 h1
    refine r_aload_n (k := 0) rfl rfl dX4_closeBlock_10 ?_
    refine r_dup rfl dX4_closeBlock_11 ?_
    refine r_gI (k := 4) (kz := 4) rfl ckX4 rfl rfl (by decide) rfl rfl fl_X4_37 dX4_closeBlock_12 ?_
    refine r_iconst dX4_closeBlock_15 ?_
    refine r_iadd dX4_closeBlock_16 ?_
    obtain ⟨c2, H⟩ := H
    refine r_pI (k := 4) (kz := 4) rfl ckX4 rfl rfl (by decide) rfl rfl rfl rfl fl_X4_37 c2 dX4_closeBlock_17 ?_
    refine r_mm (fun M3 e3 => ?_)
    have H := H M3 e3
    have hM3 : sl_RM M3 := by rw [e3]; exact sl_wr_RM hM c2
    refine r_aload_n (k := 0) rfl rfl dX4_closeBlock_20 ?_
    obtain ⟨q4, ⟨wq4, zq4⟩, H⟩ := H
    refine r_getC (hw := rfl) wq4 fl_X4_25 dX4_closeBlock_21 ?_
    refine r_getR (k := 0) (o' := q4) (i' := 1) ckX0 zq4 rfl (by decide) rfl rfl rfl fl_X4_52 dX4_closeBlock_24 ?_
    refine r_aload_n (k := 0) rfl rfl dX4_closeBlock_27 ?_
    refine r_gI (k := 3) (kz := 3) rfl ckX4 rfl rfl (by decide) rfl rfl fl_X4_34 dX4_closeBlock_28 ?_
    obtain ⟨c5, H⟩ := H
    refine r_iald zq4 rfl rfl c5 dX4_closeBlock_31 ?_
    refine r_iconst dX4_closeBlock_32 ?_
    refine r_icmp_ne (tgt := 76) (hM3 _ _ _) ⟨by decide, by decide⟩ dX4_closeBlock_33 (by decide) (fun h6 => ?_) (fun h6 => ?_)
    · have H := H.1 h6
      refine r_aload_n (k := 0) rfl rfl dX4_closeBlock_76 ?_
      refine r_aload_n (k := 0) rfl rfl dX4_closeBlock_77 ?_
      refine r_getC (hw := rfl) wq4 fl_X4_25 dX4_closeBlock_78 ?_
      refine r_getR (k := 1) (o' := q4) (i' := 2) ckX0 zq4 rfl (by decide) rfl rfl rfl fl_X4_61 dX4_closeBlock_81 ?_
      refine r_aload_n (k := 0) rfl rfl dX4_closeBlock_84 ?_
      refine r_gI (k := 3) (kz := 3) rfl ckX4 rfl rfl (by decide) rfl rfl fl_X4_34 dX4_closeBlock_85 ?_
      refine r_iald zq4 rfl rfl c5 dX4_closeBlock_88 ?_
      refine r_pI (k := 3) (kz := 3) rfl ckX4 rfl rfl (by decide) rfl rfl rfl rfl fl_X4_34 (hM3 _ _ _) dX4_closeBlock_89 ?_
      refine r_mm (fun M7 e7 => ?_)
      have H := H M7 e7
      have hM7 : sl_RM M7 := by rw [e7]; exact sl_wr_RM hM3 (hM3 _ _ _)
      refine r_iconst dX4_closeBlock_92 ?_
      refine r_zret rfl (Or.inr rfl) dX4_closeBlock_93 ?_
      exact H
    · have H := H.2 h6
      refine r_aload_n (k := 0) rfl rfl dX4_closeBlock_36 ?_
      refine r_getC (hw := rfl) wq4 fl_X4_25 dX4_closeBlock_37 ?_
      refine r_getR (k := 4) (o' := q4) (i' := 5) ckX0 zq4 rfl (by decide) rfl rfl rfl fl_X4_55 dX4_closeBlock_40 ?_
      refine r_aload_n (k := 0) rfl rfl dX4_closeBlock_43 ?_
      refine r_gI (k := 3) (kz := 3) rfl ckX4 rfl rfl (by decide) rfl rfl fl_X4_34 dX4_closeBlock_44 ?_
      refine r_iald zq4 rfl rfl c5 dX4_closeBlock_47 ?_
      refine r_if_ne (tgt := 76) (hM3 _ _ _) dX4_closeBlock_48 (by decide) (fun h8 => ?_) (fun h8 => ?_)
      · have H := H.1 h8
        refine r_aload_n (k := 0) rfl rfl dX4_closeBlock_76 ?_
        refine r_aload_n (k := 0) rfl rfl dX4_closeBlock_77 ?_
        refine r_getC (hw := rfl) wq4 fl_X4_25 dX4_closeBlock_78 ?_
        refine r_getR (k := 1) (o' := q4) (i' := 2) ckX0 zq4 rfl (by decide) rfl rfl rfl fl_X4_61 dX4_closeBlock_81 ?_
        refine r_aload_n (k := 0) rfl rfl dX4_closeBlock_84 ?_
        refine r_gI (k := 3) (kz := 3) rfl ckX4 rfl rfl (by decide) rfl rfl fl_X4_34 dX4_closeBlock_85 ?_
        refine r_iald zq4 rfl rfl c5 dX4_closeBlock_88 ?_
        refine r_pI (k := 3) (kz := 3) rfl ckX4 rfl rfl (by decide) rfl rfl rfl rfl fl_X4_34 (hM3 _ _ _) dX4_closeBlock_89 ?_
        refine r_mm (fun M9 e9 => ?_)
        have H := H M9 e9
        have hM9 : sl_RM M9 := by rw [e9]; exact sl_wr_RM hM3 (hM3 _ _ _)
        refine r_iconst dX4_closeBlock_92 ?_
        refine r_zret rfl (Or.inr rfl) dX4_closeBlock_93 ?_
        exact H
      · have H := H.2 h8
        refine r_aload_n (k := 0) rfl rfl dX4_closeBlock_51 ?_
        refine r_bipush dX4_closeBlock_52 (by decide) ?_
        refine r_callV (g := mX4_expect) ckX4 rfl rfl rfl rfl mkX4_expect mvX4_expect ml_X4_58 ⟨by decide, by decide⟩ rfl (Nat.le_of_ble_eq_true rfl) rfl (ok_i ⟨by decide, by decide⟩ ok_n) dX4_closeBlock_54 (sl_afterI (sl_RI.mono (fun y11 M10 gy11 hM10 H => ?_) H))
        refine r_if_eq (tgt := 76) gy11 dX4_closeBlock_57 (by decide) (fun h12 => ?_) (fun h12 => ?_)
        · have H := H.1 h12
          refine r_aload_n (k := 0) rfl rfl dX4_closeBlock_76 ?_
          refine r_aload_n (k := 0) rfl rfl dX4_closeBlock_77 ?_
          obtain ⟨q13, ⟨wq13, zq13⟩, H⟩ := H
          refine r_getC (hw := rfl) wq13 fl_X4_25 dX4_closeBlock_78 ?_
          refine r_getR (k := 1) (o' := q13) (i' := 2) ckX0 zq13 rfl (by decide) rfl rfl rfl fl_X4_61 dX4_closeBlock_81 ?_
          refine r_aload_n (k := 0) rfl rfl dX4_closeBlock_84 ?_
          refine r_gI (k := 3) (kz := 3) rfl ckX4 rfl rfl (by decide) rfl rfl fl_X4_34 dX4_closeBlock_85 ?_
          obtain ⟨c14, H⟩ := H
          refine r_iald zq13 rfl rfl c14 dX4_closeBlock_88 ?_
          refine r_pI (k := 3) (kz := 3) rfl ckX4 rfl rfl (by decide) rfl rfl rfl rfl fl_X4_34 (hM10 _ _ _) dX4_closeBlock_89 ?_
          refine r_mm (fun M15 e15 => ?_)
          have H := H M15 e15
          have hM15 : sl_RM M15 := by rw [e15]; exact sl_wr_RM hM10 (hM10 _ _ _)
          refine r_iconst dX4_closeBlock_92 ?_
          refine r_zret rfl (Or.inr rfl) dX4_closeBlock_93 ?_
          exact H
        · have H := H.2 h12
          refine r_aload_n (k := 0) rfl rfl dX4_closeBlock_60 ?_
          obtain ⟨q16, ⟨wq16, zq16⟩, H⟩ := H
          refine r_getC (hw := rfl) wq16 fl_X4_25 dX4_closeBlock_61 ?_
          refine r_getR (k := 4) (o' := q16) (i' := 5) ckX0 zq16 rfl (by decide) rfl rfl rfl fl_X4_55 dX4_closeBlock_64 ?_
          refine r_aload_n (k := 0) rfl rfl dX4_closeBlock_67 ?_
          refine r_gI (k := 3) (kz := 3) rfl ckX4 rfl rfl (by decide) rfl rfl fl_X4_34 dX4_closeBlock_68 ?_
          refine r_iconst dX4_closeBlock_71 ?_
          obtain ⟨c17, H⟩ := H
          refine r_iast zq16 rfl rfl c17 ⟨by decide, by decide⟩ dX4_closeBlock_72 ?_
          refine r_mm (fun M18 e18 => ?_)
          have H := H M18 e18
          have hM18 : sl_RM M18 := by rw [e18]; exact sl_wr_RM hM10 ⟨by decide, by decide⟩
          refine r_goto (tgt := 92) dX4_closeBlock_73 (by decide) ?_
          refine r_iconst dX4_closeBlock_92 ?_
          refine r_zret rfl (Or.inr rfl) dX4_closeBlock_93 ?_
          exact H
  · have H := H.2 h1
    refine r_iconst dX4_closeBlock_8 ?_
    refine r_zret rfl (Or.inl rfl) dX4_closeBlock_9 ?_
    exact H
theorem eX4_closeBlock {l : Launch} {M : sl_M} {Q : sl_R}  (k : sl_At l mX4_closeBlock 0 [(0, vR 2 0)] [] M Q) : sl_Runs l mX4_closeBlock [vR 2 0] M Q := sl_Runs.of (ls := [(0, vR 2 0)]) rfl rfl (fun _ => rfl) (fun _ => Nat.le_of_ble_eq_true rfl) rfl (k)
theorem dX4_readStatement_0 : decode cX4_readStatement 0 = .ok (.iload_n 1, 1) := by decide +kernel
theorem dX4_readStatement_1 : decode cX4_readStatement 1 = .ok (.invokestatic 64, 3) := by decide +kernel
theorem dX4_readStatement_4 : decode cX4_readStatement 4 = .ok (.istore_n 2, 1) := by decide +kernel
theorem dX4_readStatement_5 : decode cX4_readStatement 5 = .ok (.iload_n 2, 1) := by decide +kernel
theorem dX4_readStatement_6 : decode cX4_readStatement 6 = .ok (.iconst (-1), 1) := by decide +kernel
theorem dX4_readStatement_7 : decode cX4_readStatement 7 = .ok (.if_icmp .eq 15, 3) := by decide +kernel
theorem dX4_readStatement_10 : decode cX4_readStatement 10 = .ok (.aload_n 0, 1) := by decide +kernel
theorem dX4_readStatement_11 : decode cX4_readStatement 11 = .ok (.getfield 25, 3) := by decide +kernel
theorem dX4_readStatement_14 : decode cX4_readStatement 14 = .ok (.getfield 68, 3) := by decide +kernel
theorem dX4_readStatement_17 : decode cX4_readStatement 17 = .ok (.bipush 40, 2) := by decide +kernel
theorem dX4_readStatement_19 : decode cX4_readStatement 19 = .ok (.if_icmp .lt 5, 3) := by decide +kernel
theorem dX4_readStatement_22 : decode cX4_readStatement 22 = .ok (.iconst 0, 1) := by decide +kernel
theorem dX4_readStatement_23 : decode cX4_readStatement 23 = .ok (.ireturn, 1) := by decide +kernel
theorem dX4_readStatement_24 : decode cX4_readStatement 24 = .ok (.iload_n 2, 1) := by decide +kernel
theorem dX4_readStatement_25 : decode cX4_readStatement 25 = .ok (.iconst 3, 1) := by decide +kernel
theorem dX4_readStatement_26 : decode cX4_readStatement 26 = .ok (.if_icmp .eq 8, 3) := by decide +kernel
theorem dX4_readStatement_29 : decode cX4_readStatement 29 = .ok (.iload_n 2, 1) := by decide +kernel
theorem dX4_readStatement_30 : decode cX4_readStatement 30 = .ok (.iconst 4, 1) := by decide +kernel
theorem dX4_readStatement_31 : decode cX4_readStatement 31 = .ok (.if_icmp .ne 7, 3) := by decide +kernel
theorem dX4_readStatement_34 : decode cX4_readStatement 34 = .ok (.iconst 1, 1) := by decide +kernel
theorem dX4_readStatement_35 : decode cX4_readStatement 35 = .ok (.goto 4, 3) := by decide +kernel
theorem dX4_readStatement_38 : decode cX4_readStatement 38 = .ok (.iconst 0, 1) := by decide +kernel
theorem dX4_readStatement_39 : decode cX4_readStatement 39 = .ok (.istore_n 3, 1) := by decide +kernel
theorem dX4_readStatement_40 : decode cX4_readStatement 40 = .ok (.iload_n 3, 1) := by decide +kernel
theorem dX4_readStatement_41 : decode cX4_readStatement 41 = .ok (.ifCond .eq 12, 3) := by decide +kernel
theorem dX4_readStatement_44 : decode cX4_readStatement 44 = .ok (.aload_n 0, 1) := by decide +kernel
theorem dX4_readStatement_45 : decode cX4_readStatement 45 = .ok (.invokevirtual 71, 3) := by decide +kernel
theorem dX4_readStatement_48 : decode cX4_readStatement 48 = .ok (.ifCond .ne 5, 3) := by decide +kernel
theorem dX4_readStatement_51 : decode cX4_readStatement 51 = .ok (.iconst 0, 1) := by decide +kernel
theorem dX4_readStatement_52 : decode cX4_readStatement 52 = .ok (.ireturn, 1) := by decide +kernel
theorem dX4_readStatement_53 : decode cX4_readStatement 53 = .ok (.aload_n 0, 1) := by decide +kernel
theorem dX4_readStatement_54 : decode cX4_readStatement 54 = .ok (.getfield 25, 3) := by decide +kernel
theorem dX4_readStatement_57 : decode cX4_readStatement 57 = .ok (.iload_n 2, 1) := by decide +kernel
theorem dX4_readStatement_58 : decode cX4_readStatement 58 = .ok (.aload_n 0, 1) := by decide +kernel
theorem dX4_readStatement_59 : decode cX4_readStatement 59 = .ok (.getfield 34, 3) := by decide +kernel
theorem dX4_readStatement_62 : decode cX4_readStatement 62 = .ok (.aload_n 0, 1) := by decide +kernel
theorem dX4_readStatement_63 : decode cX4_readStatement 63 = .ok (.getfield 34, 3) := by decide +kernel
theorem dX4_readStatement_66 : decode cX4_readStatement 66 = .ok (.iconst (-1), 1) := by decide +kernel
theorem dX4_readStatement_67 : decode cX4_readStatement 67 = .ok (.if_icmp .ne 7, 3) := by decide +kernel
theorem dX4_readStatement_70 : decode cX4_readStatement 70 = .ok (.iconst 0, 1) := by decide +kernel
theorem dX4_readStatement_71 : decode cX4_readStatement 71 = .ok (.goto 15, 3) := by decide +kernel
theorem dX4_readStatement_74 : decode cX4_readStatement 74 = .ok (.aload_n 0, 1) := by decide +kernel
theorem dX4_readStatement_75 : decode cX4_readStatement 75 = .ok (.getfield 25, 3) := by decide +kernel
theorem dX4_readStatement_78 : decode cX4_readStatement 78 = .ok (.getfield 55, 3) := by decide +kernel
theorem dX4_readStatement_81 : decode cX4_readStatement 81 = .ok (.aload_n 0, 1) := by decide +kernel
theorem dX4_readStatement_82 : decode cX4_readStatement 82 = .ok (.getfield 34, 3) := by decide +kernel
theorem dX4_readStatement_85 : decode cX4_readStatement 85 = .ok (.iaload, 1) := by decide +kernel
theorem dX4_readStatement_86 : decode cX4_readStatement 86 = .ok (.invokevirtual 74, 3) := by decide +kernel
theorem dX4_readStatement_89 : decode cX4_readStatement 89 = .ok (.istore 4, 2) := by decide +kernel
theorem dX4_readStatement_91 : decode cX4_readStatement 91 = .ok (.aload_n 0, 1) := by decide +kernel
theorem dX4_readStatement_92 : decode cX4_readStatement 92 = .ok (.dup, 1) := by decide +kernel
theorem dX4_readStatement_93 : decode cX4_readStatement 93 = .ok (.getfield 37, 3) := by decide +kernel
theorem dX4_readStatement_96 : decode cX4_readStatement 96 = .ok (.iconst 1, 1) := by decide +kernel
theorem dX4_readStatement_97 : decode cX4_readStatement 97 = .ok (.iadd, 1) := by decide +kernel
theorem dX4_readStatement_98 : decode cX4_readStatement 98 = .ok (.putfield 37, 3) := by decide +kernel
theorem dX4_readStatement_101 : decode cX4_readStatement 101 = .ok (.iload_n 2, 1) := by decide +kernel
theorem dX4_readStatement_102 : decode cX4_readStatement 102 = .ok (.ifCond .ne 28, 3) := by decide +kernel
theorem dX4_readStatement_105 : decode cX4_readStatement 105 = .ok (.aload_n 0, 1) := by decide +kernel
theorem dX4_readStatement_106 : decode cX4_readStatement 106 = .ok (.getfield 25, 3) := by decide +kernel
theorem dX4_readStatement_109 : decode cX4_readStatement 109 = .ok (.getfield 78, 3) := by decide +kernel
theorem dX4_readStatement_112 : decode cX4_readStatement 112 = .ok (.iload 4, 2) := by decide +kernel
theorem dX4_readStatement_114 : decode cX4_readStatement 114 = .ok (.iload_n 1, 1) := by decide +kernel
theorem dX4_readStatement_115 : decode cX4_readStatement 115 = .ok (.invokestatic 81, 3) := by decide +kernel
theorem dX4_readStatement_118 : decode cX4_readStatement 118 = .ok (.iastore, 1) := by decide +kernel
theorem dX4_readStatement_119 : decode cX4_readStatement 119 = .ok (.aload_n 0, 1) := by decide +kernel
theorem dX4_readStatement_120 : decode cX4_readStatement 120 = .ok (.bipush 61, 2) := by decide +kernel
theorem dX4_readStatement_122 : decode cX4_readStatement 122 = .ok (.invokevirtual 58, 3) := by decide +kernel
theorem dX4_readStatement_125 : decode cX4_readStatement 125 = .ok (.ifCond .ne 5, 3) := by decide +kernel
theorem dX4_readStatement_128 : decode cX4_readStatement 128 = .ok (.iconst 0, 1) := by decide +kernel
theorem dX4_readStatement_129 : decode cX4_readStatement 129 = .ok (.ireturn, 1) := by decide +kernel
theorem dX4_readStatement_130 : decode cX4_readStatement 130 = .ok (.iload_n 3, 1) := by decide +kernel
theorem dX4_readStatement_131 : decode cX4_readStatement 131 = .ok (.ifCond .ne 14, 3) := by decide +kernel
theorem dX4_readStatement_134 : decode cX4_readStatement 134 = .ok (.aload_n 0, 1) := by decide +kernel
theorem dX4_readStatement_135 : decode cX4_readStatement 135 = .ok (.iload 4, 2) := by decide +kernel
theorem dX4_readStatement_137 : decode cX4_readStatement 137 = .ok (.invokevirtual 84, 3) := by decide +kernel
theorem dX4_readStatement_140 : decode cX4_readStatement 140 = .ok (.ifCond .ne 5, 3) := by decide +kernel
theorem dX4_readStatement_143 : decode cX4_readStatement 143 = .ok (.iconst 0, 1) := by decide +kernel
theorem dX4_readStatement_144 : decode cX4_readStatement 144 = .ok (.ireturn, 1) := by decide +kernel
theorem dX4_readStatement_145 : decode cX4_readStatement 145 = .ok (.iload_n 2, 1) := by decide +kernel
theorem dX4_readStatement_146 : decode cX4_readStatement 146 = .ok (.iconst 5, 1) := by decide +kernel
theorem dX4_readStatement_147 : decode cX4_readStatement 147 = .ok (.if_icmp .eq 16, 3) := by decide +kernel
theorem dX4_readStatement_150 : decode cX4_readStatement 150 = .ok (.iload_n 2, 1) := by decide +kernel
theorem dX4_readStatement_151 : decode cX4_readStatement 151 = .ok (.bipush 6, 2) := by decide +kernel
theorem dX4_readStatement_153 : decode cX4_readStatement 153 = .ok (.if_icmp .eq 10, 3) := by decide +kernel
theorem dX4_readStatement_156 : decode cX4_readStatement 156 = .ok (.aload_n 0, 1) := by decide +kernel
theorem dX4_readStatement_157 : decode cX4_readStatement 157 = .ok (.bipush 59, 2) := by decide +kernel
theorem dX4_readStatement_159 : decode cX4_readStatement 159 = .ok (.invokevirtual 58, 3) := by decide +kernel
theorem dX4_readStatement_162 : decode cX4_readStatement 162 = .ok (.ireturn, 1) := by decide +kernel
theorem dX4_readStatement_163 : decode cX4_readStatement 163 = .ok (.aload_n 0, 1) := by decide +kernel
theorem dX4_readStatement_164 : decode cX4_readStatement 164 = .ok (.iload 4, 2) := by decide +kernel
theorem dX4_readStatement_166 : decode cX4_readStatement 166 = .ok (.putfield 34, 3) := by decide +kernel
theorem dX4_readStatement_169 : decode cX4_readStatement 169 = .ok (.aload_n 0, 1) := by decide +kernel
theorem dX4_readStatement_170 : decode cX4_readStatement 170 = .ok (.bipush 123, 2) := by decide +kernel
theorem dX4_readStatement_172 : decode cX4_readStatement 172 = .ok (.invokevirtual 58, 3) := by decide +kernel
theorem dX4_readStatement_175 : decode cX4_readStatement 175 = .ok (.ireturn, 1) := by decide +kernel
set_option maxHeartbeats 4000000 in
set_option maxRecDepth 10000 in
theorem vX4_readStatement_0 {l : Launch} {M : sl_M} {Q : sl_R} {x1 : Int} (H : sl_RM M → sl_rg x1 → sl_RI l mX4_kindOf [vI x1] M (fun y2 M1 => ((y2 = (-1)) → Q (some (vI 0)) M1) ∧ ((¬ (y2 = (-1))) → (∃ q4 : Nat, (M1 2 0 2 = (q4 : Int) + 1 ∧ sl_cls q4 = 0) ∧ ((M1 q4 0 11 < 40) → (∀ y8 : Int, y8 = (if (y2 = 3) ∨ (¬ (y2 ≠ 4)) then 1 else 0) → ((¬ ((y2 = 3) ∨ (¬ (y2 ≠ 4)))) → sl_At l mX4_readStatement 53 [(0, vR 2 0), (1, vI x1), (2, vI y2), (3, vI y8)] [] M1 Q) ∧ (((y2 = 3) ∨ (¬ (y2 ≠ 4))) → sl_RI l mX4_inLoop [vR 2 0] M1 (fun y11 M10 => ((y11 ≠ 0) → sl_At l mX4_readStatement 53 [(0, vR 2 0), (1, vI x1), (2, vI y2), (3, vI y8)] [] M10 Q) ∧ ((¬ (y11 ≠ 0)) → Q (some (vI 0)) M10))))) ∧ ((¬ (M1 q4 0 11 < 40)) → Q (some (vI 0)) M1))))) : sl_At l mX4_readStatement 0 [(0, vR 2 0), (1, vI x1)] [] M Q := by
  refine sl_At.in (fun hM hls => ?_)
  have g1 : sl_rg x1 := hls _ (List.mem_of_getElem? (i := 1) rfl)
  have H := H hM g1
  refine r_iload_n (k := 1) rfl rfl dX4_readStatement_0 ?_
  refine r_callS (g := mX4_kindOf) rfl mkX4_kindOf msX4_kindOf ml_X4_64 ⟨by decide, by decide⟩ rfl (Nat.le_of_ble_eq_true rfl) rfl (ok_i g1 ok_n) dX4_readStatement_1 (sl_afterI (sl_RI.mono (fun y2 M1 gy2 hM1 H => ?_) H))
  refine r_istore_n (ls' := [(2, vI y2), (0, vR 2 0), (1, vI x1)]) gy2 rfl (by decide) rfl dX4_readStatement_4 ?_
  refine r_iload_n (k := 0) rfl rfl dX4_readStatement_5 ?_
  refine r_iconst dX4_readStatement_6 ?_
  refine r_icmp_eq (tgt := 22) gy2 ⟨by decide, by decide⟩ dX4_readStatement_7 (by decide) (fun h3 => ?_) (fun h3 => ?_)
  · have H := H.1 h3
    refine r_iconst dX4_readStatement_22 ?_
    refine r_zret rfl (Or.inl rfl) dX4_readStatement_23 ?_
    exact H
  · have H := H.2 h3
    refine r_aload_n (k := 1) rfl rfl dX4_readStatement_10 ?_
    obtain ⟨q4, ⟨wq4, zq4⟩, H⟩ := H
    refine r_getC (hw := rfl) wq4 fl_X4_25 dX4_readStatement_11 ?_
    refine r_gI (k := 11) (kz := 11) rfl ckX0 zq4 rfl (by decide) rfl rfl fl_X4_68 dX4_readStatement_14 ?_
    refine r_bipush dX4_readStatement_17 (by decide) ?_
    refine r_icmp_lt (tgt := 24) (hM1 _ _ _) ⟨by decide, by decide⟩ dX4_readStatement_19 (by decide) (fun h5 => ?_) (fun h5 => ?_)
    · have H := H.1 h5
      refine r_iload_n (k := 0) rfl rfl dX4_readStatement_24 ?_
      refine r_iconst dX4_readStatement_25 ?_
      have J : sl_At l mX4_readStatement 39 [(2, vI y2), (0, vR 2 0), (1, vI x1)] [vI (if (y2 = 3) ∨ (¬ (y2 ≠ 4)) then 1 else 0)] M1 Q := by
        refine r_nm (fun y8 fy8 => ?_)
        have H := H y8 fy8
        have gy8 : sl_rg y8 := by rw [fy8]; exact rg_b
        refine r_istore_n (ls' := [(3, vI y8), (2, vI y2), (0, vR 2 0), (1, vI x1)]) gy8 rfl (by decide) rfl dX4_readStatement_39 ?_
        refine r_iload_n (k := 0) rfl rfl dX4_readStatement_40 ?_
        refine r_if_eq (tgt := 53) gy8 dX4_readStatement_41 (by decide) (fun h9 => ?_) (fun h9 => ?_)
        · have H := H.1 (b_eq0.mp (fy8.symm.trans h9))
          exact sl_At.sub [2, 3, 1, 0] rfl H
        · have H := H.2 (b_ne0.mp (fun q => h9 (fy8.trans q)))
          refine r_aload_n (k := 2) rfl rfl dX4_readStatement_44 ?_
          refine r_callV (g := mX4_inLoop) ckX4 rfl rfl rfl rfl mkX4_inLoop mvX4_inLoop ml_X4_71 ⟨by decide, by decide⟩ rfl (Nat.le_of_ble_eq_true rfl) rfl ok_n dX4_readStatement_45 (sl_afterI (sl_RI.mono (fun y11 M10 gy11 hM10 H => ?_) H))
          refine r_if_ne (tgt := 53) gy11 dX4_readStatement_48 (by decide) (fun h12 => ?_) (fun h12 => ?_)
          · have H := H.1 h12
            exact sl_At.sub [2, 3, 1, 0] rfl H
          · have H := H.2 h12
            refine r_iconst dX4_readStatement_51 ?_
            refine r_zret rfl (Or.inl rfl) dX4_readStatement_52 ?_
            exact H
      refine r_icmp_eq (tgt := 34) gy2 ⟨by decide, by decide⟩ dX4_readStatement_26 (by decide) (fun h6 => ?_) (fun h6 => ?_)
      · refine r_iconst dX4_readStatement_34 ?_
        refine r_goto (tgt := 39) dX4_readStatement_35 (by decide) ?_
        rw [if_pos (show (y2 = 3) ∨ (¬ (y2 ≠ 4)) by omega)] at J
        exact J
      · refine r_iload_n (k := 0) rfl rfl dX4_readStatement_29 ?_
        refine r_iconst dX4_readStatement_30 ?_
        refine r_icmp_ne (tgt := 38) gy2 ⟨by decide, by decide⟩ dX4_readStatement_31 (by decide) (fun h7 => ?_) (fun h7 => ?_)
        · refine r_iconst dX4_readStatement_38 ?_
          rw [if_neg (show ¬ ((y2 = 3) ∨ (¬ (y2 ≠ 4))) by omega)] at J
          exact J
        · refine r_iconst dX4_readStatement_34 ?_
          refine r_goto (tgt := 39) dX4_readStatement_35 (by decide) ?_
          rw [if_pos (show (y2 = 3) ∨ (¬ (y2 ≠ 4)) by omega)] at J
          exact J
    · have H := H.2 h5
      refine r_iconst dX4_readStatement_22 ?_
      refine r_zret rfl (Or.inl rfl) dX4_readStatement_23 ?_
      exact H
set_option maxHeartbeats 4000000 in
set_option maxRecDepth 10000 in
theorem vX4_readStatement_34 {l : Launch} {M : sl_M} {Q : sl_R} {x1 x2 : Int} (H : sl_RM M → sl_rg x1 → sl_rg x2 → (((1 : Int) = 0) → sl_At l mX4_readStatement 53 [(0, vR 2 0), (1, vI x1), (2, vI x2), (3, vI 1)] [] M Q) ∧ ((¬ ((1 : Int) = 0)) → sl_RI l mX4_inLoop [vR 2 0] M (fun y3 M2 => ((y3 ≠ 0) → sl_At l mX4_readStatement 53 [(0, vR 2 0), (1, vI x1), (2, vI x2), (3, vI 1)] [] M2 Q) ∧ ((¬ (y3 ≠ 0)) → Q (some (vI 0)) M2)))) : sl_At l mX4_readStatement 34 [(0, vR 2 0), (1, vI x1), (2, vI x2)] [] M Q := by
  refine sl_At.in (fun hM hls => ?_)
  have g1 : sl_rg x1 := hls _ (List.mem_of_getElem? (i := 1) rfl)
  have g2 : sl_rg x2 := hls _ (List.mem_of_getElem? (i := 2) rfl)
  have H := H hM g1 g2
  refine r_iconst dX4_readStatement_34 ?_
  refine r_goto (tgt := 39) dX4_readStatement_35 (by decide) ?_
  refine r_istore_n (ls' := [(3, vI 1), (0, vR 2 0), (1, vI x1), (2, vI x2)]) ⟨by decide, by decide⟩ rfl (by decide) rfl dX4_readStatement_39 ?_
  refine r_iload_n (k := 0) rfl rfl dX4_readStatement_40 ?_
  refine r_if_eq (tgt := 53) ⟨by decide, by decide⟩ dX4_readStatement_41 (by decide) (fun h1 => ?_) (fun h1 => ?_)
  · have H := H.1 h1
    exact sl_At.sub [1, 2, 3, 0] rfl H
  · have H := H.2 h1
    refine r_aload_n (k := 1) rfl rfl dX4_readStatement_44 ?_
    refine r_callV (g := mX4_inLoop) ckX4 rfl rfl rfl rfl mkX4_inLoop mvX4_inLoop ml_X4_71 ⟨by decide, by decide⟩ rfl (Nat.le_of_ble_eq_true rfl) rfl ok_n dX4_readStatement_45 (sl_afterI (sl_RI.mono (fun y3 M2 gy3 hM2 H => ?_) H))
    refine r_if_ne (tgt := 53) gy3 dX4_readStatement_48 (by decide) (fun h4 => ?_) (fun h4 => ?_)
    · have H := H.1 h4
      exact sl_At.sub [1, 2, 3, 0] rfl H
    · have H := H.2 h4
      refine r_iconst dX4_readStatement_51 ?_
      refine r_zret rfl (Or.inl rfl) dX4_readStatement_52 ?_
      exact H
set_option maxHeartbeats 4000000 in
set_option maxRecDepth 10000 in
theorem vX4_readStatement_53 {l : Launch} {M : sl_M} {Q : sl_R} {x1 x2 x3 : Int} (H : sl_RM M → sl_rg x1 → sl_rg x2 → sl_rg x3 → (∃ q1 : Nat, (M 2 0 2 = (q1 : Int) + 1 ∧ sl_cls q1 = 0) ∧ ((M 2 0 3 ≠ (-1)) → (0 ≤ M 2 0 3 ∧ M 2 0 3 < 40) ∧ sl_At l mX4_readStatement 86 [(0, vR 2 0), (1, vI x1), (2, vI x2), (3, vI x3)] [vI (M q1 5 (M 2 0 3)), vI (M 2 0 3), vI x2, vR q1 0] M Q) ∧ ((¬ (M 2 0 3 ≠ (-1))) → sl_At l mX4_readStatement 86 [(0, vR 2 0), (1, vI x1), (2, vI x2), (3, vI x3)] [vI 0, vI (M 2 0 3), vI x2, vR q1 0] M Q))) : sl_At l mX4_readStatement 53 [(0, vR 2 0), (1, vI x1), (2, vI x2), (3, vI x3)] [] M Q := by
  refine sl_At.in (fun hM hls => ?_)
  have g1 : sl_rg x1 := hls _ (List.mem_of_getElem? (i := 1) rfl)
  have g2 : sl_rg x2 := hls _ (List.mem_of_getElem? (i := 2) rfl)
  have g3 : sl_rg x3 := hls _ (List.mem_of_getElem? (i := 3) rfl)
  have H := H hM g1 g2 g3
  refine r_aload_n (k := 0) rfl rfl dX4_readStatement_53 ?_
  obtain ⟨q1, ⟨wq1, zq1⟩, H⟩ := H
  refine r_getC (hw := rfl) wq1 fl_X4_25 dX4_readStatement_54 ?_
  refine r_iload_n (k := 2) rfl rfl dX4_readStatement_57 ?_
  refine r_aload_n (k := 0) rfl rfl dX4_readStatement_58 ?_
  refine r_gI (k := 3) (kz := 3) rfl ckX4 rfl rfl (by decide) rfl rfl fl_X4_34 dX4_readStatement_59 ?_
  refine r_aload_n (k := 0) rfl rfl dX4_readStatement_62 ?_
  refine r_gI (k := 3) (kz := 3) rfl ckX4 rfl rfl (by decide) rfl rfl fl_X4_34 dX4_readStatement_63 ?_
  refine r_iconst dX4_readStatement_66 ?_
  refine r_icmp_ne (tgt := 74) (hM _ _ _) ⟨by decide, by decide⟩ dX4_readStatement_67 (by decide) (fun h2 => ?_) (fun h2 => ?_)
  · have H := H.1 h2
    refine r_aload_n (k := 0) rfl rfl dX4_readStatement_74 ?_
    refine r_getC (hw := rfl) wq1 fl_X4_25 dX4_readStatement_75 ?_
    refine r_getR (k := 4) (o' := q1) (i' := 5) ckX0 zq1 rfl (by decide) rfl rfl rfl fl_X4_55 dX4_readStatement_78 ?_
    refine r_aload_n (k := 0) rfl rfl dX4_readStatement_81 ?_
    refine r_gI (k := 3) (kz := 3) rfl ckX4 rfl rfl (by decide) rfl rfl fl_X4_34 dX4_readStatement_82 ?_
    obtain ⟨c3, H⟩ := H
    refine r_iald zq1 rfl rfl c3 dX4_readStatement_85 ?_
    exact H
  · have H := H.2 h2
    refine r_iconst dX4_readStatement_70 ?_
    refine r_goto (tgt := 86) dX4_readStatement_71 (by decide) ?_
    exact H
set_option maxHeartbeats 4000000 in
set_option maxRecDepth 10000 in
theorem vX4_readStatement_86 {l : Launch} {M : sl_M} {Q : sl_R} {x1 x2 x3 s1 s2 s3 : Int} {t0 : Nat} (ht0 : sl_cls t0 = 0) (gs1 : sl_rg s1) (gs2 : sl_rg s2) (gs3 : sl_rg s3) (H : sl_RM M → sl_rg x1 → sl_rg x2 → sl_rg x3 → sl_RI l mX0_add [vR t0 0, vI s1, vI s2, vI s3] M (fun y2 M1 => (sl_rg (M1 2 0 4 + 1)) ∧ (∀ M4, M4 = sl_wr M1 2 0 4 (M1 2 0 4 + 1) → ((x2 ≠ 0) → ((x3 ≠ 0) → sl_At l mX4_readStatement 145 [(0, vR 2 0), (2, vI x2), (4, vI y2)] [] M4 Q) ∧ ((¬ (x3 ≠ 0)) → sl_RI l mX4_readExpression [vR 2 0, vI y2] M4 (fun y8 M7 => ((y8 ≠ 0) → sl_At l mX4_readStatement 145 [(0, vR 2 0), (2, vI x2), (4, vI y2)] [] M7 Q) ∧ ((¬ (y8 ≠ 0)) → Q (some (vI 0)) M7)))) ∧ ((¬ (x2 ≠ 0)) → (∃ q10 : Nat, (M4 2 0 2 = (q10 : Int) + 1 ∧ sl_cls q10 = 0) ∧ (0 ≤ y2 ∧ y2 < 40) ∧ (∀ M12, M12 = sl_wr M4 q10 6 y2 (sp_var x1) → sl_RI l mX4_expect [vR 2 0, vI 61] M12 (fun y14 M13 => ((y14 ≠ 0) → ((x3 ≠ 0) → sl_At l mX4_readStatement 145 [(0, vR 2 0), (2, vI x2), (4, vI y2)] [] M13 Q) ∧ ((¬ (x3 ≠ 0)) → sl_RI l mX4_readExpression [vR 2 0, vI y2] M13 (fun y18 M17 => ((y18 ≠ 0) → sl_At l mX4_readStatement 145 [(0, vR 2 0), (2, vI x2), (4, vI y2)] [] M17 Q) ∧ ((¬ (y18 ≠ 0)) → Q (some (vI 0)) M17)))) ∧ ((¬ (y14 ≠ 0)) → Q (some (vI 0)) M13)))))))) : sl_At l mX4_readStatement 86 [(0, vR 2 0), (1, vI x1), (2, vI x2), (3, vI x3)] [vI s3, vI s2, vI s1, vR t0 0] M Q := by
  refine sl_At.in (fun hM hls => ?_)
  have g1 : sl_rg x1 := hls _ (List.mem_of_getElem? (i := 1) rfl)
  have g2 : sl_rg x2 := hls _ (List.mem_of_getElem? (i := 2) rfl)
  have g3 : sl_rg x3 := hls _ (List.mem_of_getElem? (i := 3) rfl)
  have H := H hM g1 g2 g3
  refine r_callV (g := mX0_add) ckX0 ht0 rfl rfl rfl mkX0_add mvX0_add ml_X4_74 ⟨by decide, by decide⟩ rfl (Nat.le_of_ble_eq_true rfl) rfl (ok_i gs1 (ok_i gs2 (ok_i gs3 ok_n))) dX4_readStatement_86 (sl_afterI (sl_RI.mono (fun y2 M1 gy2 hM1 H => ?_) H))
  refine r_istore (ls' := [(4, vI y2), (0, vR 2 0), (1, vI x1), (2, vI x2), (3, vI x3)]) gy2 (by decide) rfl dX4_readStatement_89 ?_
  refine r_aload_n (k := 1) rfl rfl dX4_readStatement_91 ?_
  refine r_dup rfl dX4_readStatement_92 ?_
  refine r_gI (k := 4) (kz := 4) rfl ckX4 rfl rfl (by decide) rfl rfl fl_X4_37 dX4_readStatement_93 ?_
  refine r_iconst dX4_readStatement_96 ?_
  refine r_iadd dX4_readStatement_97 ?_
  obtain ⟨c3, H⟩ := H
  refine r_pI (k := 4) (kz := 4) rfl ckX4 rfl rfl (by decide) rfl rfl rfl rfl fl_X4_37 c3 dX4_readStatement_98 ?_
  refine r_mm (fun M4 e4 => ?_)
  have H := H M4 e4
  have hM4 : sl_RM M4 := by rw [e4]; exact sl_wr_RM hM1 c3
  refine r_iload_n (k := 3) rfl rfl dX4_readStatement_101 ?_
  refine r_if_ne (tgt := 130) g2 dX4_readStatement_102 (by decide) (fun h5 => ?_) (fun h5 => ?_)
  · have H := H.1 h5
    refine r_iload_n (k := 4) rfl rfl dX4_readStatement_130 ?_
    refine r_if_ne (tgt := 145) g3 dX4_readStatement_131 (by decide) (fun h6 => ?_) (fun h6 => ?_)
    · have H := H.1 h6
      exact sl_At.sub [1, 3, 0] rfl H
    · have H := H.2 h6
      refine r_aload_n (k := 1) rfl rfl dX4_readStatement_134 ?_
      refine r_iload (k := 0) rfl dX4_readStatement_135 ?_
      refine r_callV (g := mX4_readExpression) ckX4 rfl rfl rfl rfl mkX4_readExpression mvX4_readExpression ml_X4_84 ⟨by decide, by decide⟩ rfl (Nat.le_of_ble_eq_true rfl) rfl (ok_i gy2 ok_n) dX4_readStatement_137 (sl_afterI (sl_RI.mono (fun y8 M7 gy8 hM7 H => ?_) H))
      refine r_if_ne (tgt := 145) gy8 dX4_readStatement_140 (by decide) (fun h9 => ?_) (fun h9 => ?_)
      · have H := H.1 h9
        exact sl_At.sub [1, 3, 0] rfl H
      · have H := H.2 h9
        refine r_iconst dX4_readStatement_143 ?_
        refine r_zret rfl (Or.inl rfl) dX4_readStatement_144 ?_
        exact H
  · have H := H.2 h5
    refine r_aload_n (k := 1) rfl rfl dX4_readStatement_105 ?_
    obtain ⟨q10, ⟨wq10, zq10⟩, H⟩ := H
    refine r_getC (hw := rfl) wq10 fl_X4_25 dX4_readStatement_106 ?_
    refine r_getR (k := 5) (o' := q10) (i' := 6) ckX0 zq10 rfl (by decide) rfl rfl rfl fl_X4_78 dX4_readStatement_109 ?_
    refine r_iload (k := 0) rfl dX4_readStatement_112 ?_
    refine r_iload_n (k := 2) rfl rfl dX4_readStatement_114 ?_
    refine r_callSN (g := mX9_variableOf) rfl mkX9_variableOf msX9_variableOf mn_X4_81 ⟨by decide, by decide⟩ rfl (Nat.le_of_ble_eq_true rfl) rfl (ok_i g1 ok_n) dX4_readStatement_115 (sl_afterI (sl_RI.by kX9_variableOf ?_))
    obtain ⟨c11, H⟩ := H
    refine r_iast zq10 rfl rfl c11 (rgkX9_variableOf _) dX4_readStatement_118 ?_
    refine r_mm (fun M12 e12 => ?_)
    have H := H M12 e12
    have hM12 : sl_RM M12 := by rw [e12]; exact sl_wr_RM hM4 (rgkX9_variableOf _)
    refine r_aload_n (k := 1) rfl rfl dX4_readStatement_119 ?_
    refine r_bipush dX4_readStatement_120 (by decide) ?_
    refine r_callV (g := mX4_expect) ckX4 rfl rfl rfl rfl mkX4_expect mvX4_expect ml_X4_58 ⟨by decide, by decide⟩ rfl (Nat.le_of_ble_eq_true rfl) rfl (ok_i ⟨by decide, by decide⟩ ok_n) dX4_readStatement_122 (sl_afterI (sl_RI.mono (fun y14 M13 gy14 hM13 H => ?_) H))
    refine r_if_ne (tgt := 130) gy14 dX4_readStatement_125 (by decide) (fun h15 => ?_) (fun h15 => ?_)
    · have H := H.1 h15
      refine r_iload_n (k := 4) rfl rfl dX4_readStatement_130 ?_
      refine r_if_ne (tgt := 145) g3 dX4_readStatement_131 (by decide) (fun h16 => ?_) (fun h16 => ?_)
      · have H := H.1 h16
        exact sl_At.sub [1, 3, 0] rfl H
      · have H := H.2 h16
        refine r_aload_n (k := 1) rfl rfl dX4_readStatement_134 ?_
        refine r_iload (k := 0) rfl dX4_readStatement_135 ?_
        refine r_callV (g := mX4_readExpression) ckX4 rfl rfl rfl rfl mkX4_readExpression mvX4_readExpression ml_X4_84 ⟨by decide, by decide⟩ rfl (Nat.le_of_ble_eq_true rfl) rfl (ok_i gy2 ok_n) dX4_readStatement_137 (sl_afterI (sl_RI.mono (fun y18 M17 gy18 hM17 H => ?_) H))
        refine r_if_ne (tgt := 145) gy18 dX4_readStatement_140 (by decide) (fun h19 => ?_) (fun h19 => ?_)
        · have H := H.1 h19
          exact sl_At.sub [1, 3, 0] rfl H
        · have H := H.2 h19
          refine r_iconst dX4_readStatement_143 ?_
          refine r_zret rfl (Or.inl rfl) dX4_readStatement_144 ?_
          exact H
    · have H := H.2 h15
      refine r_iconst dX4_readStatement_128 ?_
      refine r_zret rfl (Or.inl rfl) dX4_readStatement_129 ?_
      exact H
set_option maxHeartbeats 4000000 in
set_option maxRecDepth 10000 in
theorem vX4_readStatement_145 {l : Launch} {M : sl_M} {Q : sl_R} {x2 x4 : Int} (H : sl_RM M → sl_rg x2 → sl_rg x4 → ((x2 = 5) → (∀ M2, M2 = sl_wr M 2 0 3 x4 → sl_RI l mX4_expect [vR 2 0, vI 123] M2 (fun y4 M3 => (y4 = 0 ∨ y4 = 1) ∧ Q (some (vI y4)) M3))) ∧ ((¬ (x2 = 5)) → ((x2 = 6) → (∀ M7, M7 = sl_wr M 2 0 3 x4 → sl_RI l mX4_expect [vR 2 0, vI 123] M7 (fun y9 M8 => (y9 = 0 ∨ y9 = 1) ∧ Q (some (vI y9)) M8))) ∧ ((¬ (x2 = 6)) → sl_RI l mX4_expect [vR 2 0, vI 59] M (fun y12 M11 => (y12 = 0 ∨ y12 = 1) ∧ Q (some (vI y12)) M11)))) : sl_At l mX4_readStatement 145 [(0, vR 2 0), (2, vI x2), (4, vI x4)] [] M Q := by
  refine sl_At.in (fun hM hls => ?_)
  have g2 : sl_rg x2 := hls _ (List.mem_of_getElem? (i := 1) rfl)
  have g4 : sl_rg x4 := hls _ (List.mem_of_getElem? (i := 2) rfl)
  have H := H hM g2 g4
  refine r_iload_n (k := 1) rfl rfl dX4_readStatement_145 ?_
  refine r_iconst dX4_readStatement_146 ?_
  refine r_icmp_eq (tgt := 163) g2 ⟨by decide, by decide⟩ dX4_readStatement_147 (by decide) (fun h1 => ?_) (fun h1 => ?_)
  · have H := H.1 h1
    refine r_aload_n (k := 0) rfl rfl dX4_readStatement_163 ?_
    refine r_iload (k := 2) rfl dX4_readStatement_164 ?_
    refine r_pI (k := 3) (kz := 3) rfl ckX4 rfl rfl (by decide) rfl rfl rfl rfl fl_X4_34 g4 dX4_readStatement_166 ?_
    refine r_mm (fun M2 e2 => ?_)
    have H := H M2 e2
    have hM2 : sl_RM M2 := by rw [e2]; exact sl_wr_RM hM g4
    refine r_aload_n (k := 0) rfl rfl dX4_readStatement_169 ?_
    refine r_bipush dX4_readStatement_170 (by decide) ?_
    refine r_callV (g := mX4_expect) ckX4 rfl rfl rfl rfl mkX4_expect mvX4_expect ml_X4_58 ⟨by decide, by decide⟩ rfl (Nat.le_of_ble_eq_true rfl) rfl (ok_i ⟨by decide, by decide⟩ ok_n) dX4_readStatement_172 (sl_afterI (sl_RI.mono (fun y4 M3 gy4 hM3 H => ?_) H))
    obtain ⟨c5, H⟩ := H
    refine r_zret rfl c5 dX4_readStatement_175 ?_
    exact H
  · have H := H.2 h1
    refine r_iload_n (k := 1) rfl rfl dX4_readStatement_150 ?_
    refine r_bipush dX4_readStatement_151 (by decide) ?_
    refine r_icmp_eq (tgt := 163) g2 ⟨by decide, by decide⟩ dX4_readStatement_153 (by decide) (fun h6 => ?_) (fun h6 => ?_)
    · have H := H.1 h6
      refine r_aload_n (k := 0) rfl rfl dX4_readStatement_163 ?_
      refine r_iload (k := 2) rfl dX4_readStatement_164 ?_
      refine r_pI (k := 3) (kz := 3) rfl ckX4 rfl rfl (by decide) rfl rfl rfl rfl fl_X4_34 g4 dX4_readStatement_166 ?_
      refine r_mm (fun M7 e7 => ?_)
      have H := H M7 e7
      have hM7 : sl_RM M7 := by rw [e7]; exact sl_wr_RM hM g4
      refine r_aload_n (k := 0) rfl rfl dX4_readStatement_169 ?_
      refine r_bipush dX4_readStatement_170 (by decide) ?_
      refine r_callV (g := mX4_expect) ckX4 rfl rfl rfl rfl mkX4_expect mvX4_expect ml_X4_58 ⟨by decide, by decide⟩ rfl (Nat.le_of_ble_eq_true rfl) rfl (ok_i ⟨by decide, by decide⟩ ok_n) dX4_readStatement_172 (sl_afterI (sl_RI.mono (fun y9 M8 gy9 hM8 H => ?_) H))
      obtain ⟨c10, H⟩ := H
      refine r_zret rfl c10 dX4_readStatement_175 ?_
      exact H
    · have H := H.2 h6
      refine r_aload_n (k := 0) rfl rfl dX4_readStatement_156 ?_
      refine r_bipush dX4_readStatement_157 (by decide) ?_
      refine r_callV (g := mX4_expect) ckX4 rfl rfl rfl rfl mkX4_expect mvX4_expect ml_X4_58 ⟨by decide, by decide⟩ rfl (Nat.le_of_ble_eq_true rfl) rfl (ok_i ⟨by decide, by decide⟩ ok_n) dX4_readStatement_159 (sl_afterI (sl_RI.mono (fun y12 M11 gy12 hM11 H => ?_) H))
      obtain ⟨c13, H⟩ := H
      refine r_zret rfl c13 dX4_readStatement_162 ?_
      exact H
theorem eX4_readStatement {l : Launch} {M : sl_M} {Q : sl_R} {x1 : Int} (k : sl_At l mX4_readStatement 0 [(0, vR 2 0), (1, vI x1)] [] M Q) : sl_Runs l mX4_readStatement [vR 2 0, vI x1] M Q := sl_Runs.of (ls := [(0, vR 2 0), (1, vI x1)]) rfl rfl (fun _ => rfl) (fun _ => Nat.le_of_ble_eq_true rfl) rfl (k)
theorem dX4_inLoop_0 : decode cX4_inLoop 0 = .ok (.aload_n 0, 1) := by decide +kernel
theorem dX4_inLoop_1 : decode cX4_inLoop 1 = .ok (.getfield 34, 3) := by decide +kernel
theorem dX4_inLoop_4 : decode cX4_inLoop 4 = .ok (.iconst (-1), 1) := by decide +kernel
theorem dX4_inLoop_5 : decode cX4_inLoop 5 = .ok (.if_icmp .eq 40, 3) := by decide +kernel
theorem dX4_inLoop_8 : decode cX4_inLoop 8 = .ok (.aload_n 0, 1) := by decide +kernel
theorem dX4_inLoop_9 : decode cX4_inLoop 9 = .ok (.getfield 25, 3) := by decide +kernel
theorem dX4_inLoop_12 : decode cX4_inLoop 12 = .ok (.getfield 52, 3) := by decide +kernel
theorem dX4_inLoop_15 : decode cX4_inLoop 15 = .ok (.aload_n 0, 1) := by decide +kernel
theorem dX4_inLoop_16 : decode cX4_inLoop 16 = .ok (.getfield 34, 3) := by decide +kernel
theorem dX4_inLoop_19 : decode cX4_inLoop 19 = .ok (.iaload, 1) := by decide +kernel
theorem dX4_inLoop_20 : decode cX4_inLoop 20 = .ok (.bipush 6, 2) := by decide +kernel
theorem dX4_inLoop_22 : decode cX4_inLoop 22 = .ok (.if_icmp .eq 19, 3) := by decide +kernel
theorem dX4_inLoop_25 : decode cX4_inLoop 25 = .ok (.aload_n 0, 1) := by decide +kernel
theorem dX4_inLoop_26 : decode cX4_inLoop 26 = .ok (.getfield 25, 3) := by decide +kernel
theorem dX4_inLoop_29 : decode cX4_inLoop 29 = .ok (.aload_n 0, 1) := by decide +kernel
theorem dX4_inLoop_30 : decode cX4_inLoop 30 = .ok (.getfield 34, 3) := by decide +kernel
theorem dX4_inLoop_33 : decode cX4_inLoop 33 = .ok (.iconst 0, 1) := by decide +kernel
theorem dX4_inLoop_34 : decode cX4_inLoop 34 = .ok (.invokevirtual 87, 3) := by decide +kernel
theorem dX4_inLoop_37 : decode cX4_inLoop 37 = .ok (.iconst (-1), 1) := by decide +kernel
theorem dX4_inLoop_38 : decode cX4_inLoop 38 = .ok (.if_icmp .eq 7, 3) := by decide +kernel
theorem dX4_inLoop_41 : decode cX4_inLoop 41 = .ok (.iconst 1, 1) := by decide +kernel
theorem dX4_inLoop_42 : decode cX4_inLoop 42 = .ok (.goto 4, 3) := by decide +kernel
theorem dX4_inLoop_45 : decode cX4_inLoop 45 = .ok (.iconst 0, 1) := by decide +kernel
theorem dX4_inLoop_46 : decode cX4_inLoop 46 = .ok (.ireturn, 1) := by decide +kernel
set_option maxHeartbeats 4000000 in
set_option maxRecDepth 10000 in
theorem vX4_inLoop_0 {l : Launch} {M : sl_M} {Q : sl_R} (H : sl_RM M → ((M 2 0 3 = (-1)) → Q (some (vI 0)) M) ∧ ((¬ (M 2 0 3 = (-1))) → (∃ q2 : Nat, (M 2 0 2 = (q2 : Int) + 1 ∧ sl_cls q2 = 0) ∧ (0 ≤ M 2 0 3 ∧ M 2 0 3 < 40) ∧ ((M q2 1 (M 2 0 3) = 6) → Q (some (vI 1)) M) ∧ ((¬ (M q2 1 (M 2 0 3) = 6)) → sl_RI l mX0_loopAround [vR q2 0, vI (M 2 0 3), vI 0] M (fun y6 M5 => Q (some (vI (if ¬ (y6 = (-1)) then 1 else 0))) M5))))) : sl_At l mX4_inLoop 0 [(0, vR 2 0)] [] M Q := by
  refine sl_At.in (fun hM hls => ?_)
  have H := H hM
  refine r_aload_n (k := 0) rfl rfl dX4_inLoop_0 ?_
  refine r_gI (k := 3) (kz := 3) rfl ckX4 rfl rfl (by decide) rfl rfl fl_X4_34 dX4_inLoop_1 ?_
  refine r_iconst dX4_inLoop_4 ?_
  refine r_icmp_eq (tgt := 45) (hM _ _ _) ⟨by decide, by decide⟩ dX4_inLoop_5 (by decide) (fun h1 => ?_) (fun h1 => ?_)
  · have H := H.1 h1
    refine r_iconst dX4_inLoop_45 ?_
    refine r_zret rfl (Or.inl rfl) dX4_inLoop_46 ?_
    exact H
  · have H := H.2 h1
    refine r_aload_n (k := 0) rfl rfl dX4_inLoop_8 ?_
    obtain ⟨q2, ⟨wq2, zq2⟩, H⟩ := H
    refine r_getC (hw := rfl) wq2 fl_X4_25 dX4_inLoop_9 ?_
    refine r_getR (k := 0) (o' := q2) (i' := 1) ckX0 zq2 rfl (by decide) rfl rfl rfl fl_X4_52 dX4_inLoop_12 ?_
    refine r_aload_n (k := 0) rfl rfl dX4_inLoop_15 ?_
    refine r_gI (k := 3) (kz := 3) rfl ckX4 rfl rfl (by decide) rfl rfl fl_X4_34 dX4_inLoop_16 ?_
    obtain ⟨c3, H⟩ := H
    refine r_iald zq2 rfl rfl c3 dX4_inLoop_19 ?_
    refine r_bipush dX4_inLoop_20 (by decide) ?_
    refine r_icmp_eq (tgt := 41) (hM _ _ _) ⟨by decide, by decide⟩ dX4_inLoop_22 (by decide) (fun h4 => ?_) (fun h4 => ?_)
    · have H := H.1 h4
      refine r_iconst dX4_inLoop_41 ?_
      refine r_goto (tgt := 46) dX4_inLoop_42 (by decide) ?_
      refine r_zret rfl (Or.inr rfl) dX4_inLoop_46 ?_
      exact H
    · have H := H.2 h4
      refine r_aload_n (k := 0) rfl rfl dX4_inLoop_25 ?_
      refine r_getC (hw := rfl) wq2 fl_X4_25 dX4_inLoop_26 ?_
      refine r_aload_n (k := 0) rfl rfl dX4_inLoop_29 ?_
      refine r_gI (k := 3) (kz := 3) rfl ckX4 rfl rfl (by decide) rfl rfl fl_X4_34 dX4_inLoop_30 ?_
      refine r_iconst dX4_inLoop_33 ?_
      refine r_callV (g := mX0_loopAround) ckX0 zq2 rfl rfl rfl mkX0_loopAround mvX0_loopAround ml_X4_87 ⟨by decide, by decide⟩ rfl (Nat.le_of_ble_eq_true rfl) rfl (ok_i (hM _ _ _) (ok_i ⟨by decide, by decide⟩ ok_n)) dX4_inLoop_34 (sl_afterI (sl_RI.mono (fun y6 M5 gy6 hM5 H => ?_) H))
      refine r_iconst dX4_inLoop_37 ?_
      have J : sl_At l mX4_inLoop 46 [(0, vR 2 0)] [vI (if ¬ (y6 = (-1)) then 1 else 0)] M5 Q := by
        refine r_zret rfl b_01 dX4_inLoop_46 ?_
        exact H
      refine r_icmp_eq (tgt := 45) gy6 ⟨by decide, by decide⟩ dX4_inLoop_38 (by decide) (fun h7 => ?_) (fun h7 => ?_)
      · refine r_iconst dX4_inLoop_45 ?_
        rw [if_neg (show ¬ (¬ (y6 = (-1))) by omega)] at J
        exact J
      · refine r_iconst dX4_inLoop_41 ?_
        refine r_goto (tgt := 46) dX4_inLoop_42 (by decide) ?_
        rw [if_pos (show ¬ (y6 = (-1)) by omega)] at J
        exact J
theorem eX4_inLoop {l : Launch} {M : sl_M} {Q : sl_R}  (k : sl_At l mX4_inLoop 0 [(0, vR 2 0)] [] M Q) : sl_Runs l mX4_inLoop [vR 2 0] M Q := sl_Runs.of (ls := [(0, vR 2 0)]) rfl rfl (fun _ => rfl) (fun _ => Nat.le_of_ble_eq_true rfl) rfl (k)
theorem dX4_readExpression_0 : decode cX4_readExpression 0 = .ok (.iconst 1, 1) := by decide +kernel
theorem dX4_readExpression_1 : decode cX4_readExpression 1 = .ok (.istore_n 2, 1) := by decide +kernel
theorem dX4_readExpression_2 : decode cX4_readExpression 2 = .ok (.iconst 0, 1) := by decide +kernel
theorem dX4_readExpression_3 : decode cX4_readExpression 3 = .ok (.istore_n 3, 1) := by decide +kernel
theorem dX4_readExpression_4 : decode cX4_readExpression 4 = .ok (.iload_n 3, 1) := by decide +kernel
theorem dX4_readExpression_5 : decode cX4_readExpression 5 = .ok (.bipush 12, 2) := by decide +kernel
theorem dX4_readExpression_7 : decode cX4_readExpression 7 = .ok (.if_icmp .ge 107, 3) := by decide +kernel
theorem dX4_readExpression_10 : decode cX4_readExpression 10 = .ok (.iload_n 2, 1) := by decide +kernel
theorem dX4_readExpression_11 : decode cX4_readExpression 11 = .ok (.ifCond .le 103, 3) := by decide +kernel
theorem dX4_readExpression_14 : decode cX4_readExpression 14 = .ok (.aload_n 0, 1) := by decide +kernel
theorem dX4_readExpression_15 : decode cX4_readExpression 15 = .ok (.invokevirtual 40, 3) := by decide +kernel
theorem dX4_readExpression_18 : decode cX4_readExpression 18 = .ok (.istore 4, 2) := by decide +kernel
theorem dX4_readExpression_20 : decode cX4_readExpression 20 = .ok (.iload 4, 2) := by decide +kernel
theorem dX4_readExpression_22 : decode cX4_readExpression 22 = .ok (.invokestatic 81, 3) := by decide +kernel
theorem dX4_readExpression_25 : decode cX4_readExpression 25 = .ok (.istore 5, 2) := by decide +kernel
theorem dX4_readExpression_27 : decode cX4_readExpression 27 = .ok (.iload 4, 2) := by decide +kernel
theorem dX4_readExpression_29 : decode cX4_readExpression 29 = .ok (.invokestatic 90, 3) := by decide +kernel
theorem dX4_readExpression_32 : decode cX4_readExpression 32 = .ok (.ifCond .ne 19, 3) := by decide +kernel
theorem dX4_readExpression_35 : decode cX4_readExpression 35 = .ok (.iload 4, 2) := by decide +kernel
theorem dX4_readExpression_37 : decode cX4_readExpression 37 = .ok (.invokestatic 93, 3) := by decide +kernel
theorem dX4_readExpression_40 : decode cX4_readExpression 40 = .ok (.ifCond .ne 11, 3) := by decide +kernel
theorem dX4_readExpression_43 : decode cX4_readExpression 43 = .ok (.iload 5, 2) := by decide +kernel
theorem dX4_readExpression_45 : decode cX4_readExpression 45 = .ok (.iconst (-1), 1) := by decide +kernel
theorem dX4_readExpression_46 : decode cX4_readExpression 46 = .ok (.if_icmp .ne 5, 3) := by decide +kernel
theorem dX4_readExpression_49 : decode cX4_readExpression 49 = .ok (.iconst 0, 1) := by decide +kernel
theorem dX4_readExpression_50 : decode cX4_readExpression 50 = .ok (.ireturn, 1) := by decide +kernel
theorem dX4_readExpression_51 : decode cX4_readExpression 51 = .ok (.iload_n 2, 1) := by decide +kernel
theorem dX4_readExpression_52 : decode cX4_readExpression 52 = .ok (.iload 4, 2) := by decide +kernel
theorem dX4_readExpression_54 : decode cX4_readExpression 54 = .ok (.invokestatic 90, 3) := by decide +kernel
theorem dX4_readExpression_57 : decode cX4_readExpression 57 = .ok (.ifCond .eq 7, 3) := by decide +kernel
theorem dX4_readExpression_60 : decode cX4_readExpression 60 = .ok (.iconst 1, 1) := by decide +kernel
theorem dX4_readExpression_61 : decode cX4_readExpression 61 = .ok (.goto 4, 3) := by decide +kernel
theorem dX4_readExpression_64 : decode cX4_readExpression 64 = .ok (.iconst (-1), 1) := by decide +kernel
theorem dX4_readExpression_65 : decode cX4_readExpression 65 = .ok (.iadd, 1) := by decide +kernel
theorem dX4_readExpression_66 : decode cX4_readExpression 66 = .ok (.istore_n 2, 1) := by decide +kernel
theorem dX4_readExpression_67 : decode cX4_readExpression 67 = .ok (.iload 5, 2) := by decide +kernel
theorem dX4_readExpression_69 : decode cX4_readExpression 69 = .ok (.iconst (-1), 1) := by decide +kernel
theorem dX4_readExpression_70 : decode cX4_readExpression 70 = .ok (.if_icmp .eq 19, 3) := by decide +kernel
theorem dX4_readExpression_73 : decode cX4_readExpression 73 = .ok (.aload_n 0, 1) := by decide +kernel
theorem dX4_readExpression_74 : decode cX4_readExpression 74 = .ok (.getfield 25, 3) := by decide +kernel
theorem dX4_readExpression_77 : decode cX4_readExpression 77 = .ok (.getfield 96, 3) := by decide +kernel
theorem dX4_readExpression_80 : decode cX4_readExpression 80 = .ok (.iload_n 1, 1) := by decide +kernel
theorem dX4_readExpression_81 : decode cX4_readExpression 81 = .ok (.dup2, 1) := by decide +kernel
theorem dX4_readExpression_82 : decode cX4_readExpression 82 = .ok (.iaload, 1) := by decide +kernel
theorem dX4_readExpression_83 : decode cX4_readExpression 83 = .ok (.iconst 1, 1) := by decide +kernel
theorem dX4_readExpression_84 : decode cX4_readExpression 84 = .ok (.iload 5, 2) := by decide +kernel
theorem dX4_readExpression_86 : decode cX4_readExpression 86 = .ok (.ishl, 1) := by decide +kernel
theorem dX4_readExpression_87 : decode cX4_readExpression 87 = .ok (.ior, 1) := by decide +kernel
theorem dX4_readExpression_88 : decode cX4_readExpression 88 = .ok (.iastore, 1) := by decide +kernel
theorem dX4_readExpression_89 : decode cX4_readExpression 89 = .ok (.aload_n 0, 1) := by decide +kernel
theorem dX4_readExpression_90 : decode cX4_readExpression 90 = .ok (.getfield 25, 3) := by decide +kernel
theorem dX4_readExpression_93 : decode cX4_readExpression 93 = .ok (.iload 4, 2) := by decide +kernel
theorem dX4_readExpression_95 : decode cX4_readExpression 95 = .ok (.invokevirtual 99, 3) := by decide +kernel
theorem dX4_readExpression_98 : decode cX4_readExpression 98 = .ok (.aload_n 0, 1) := by decide +kernel
theorem dX4_readExpression_99 : decode cX4_readExpression 99 = .ok (.dup, 1) := by decide +kernel
theorem dX4_readExpression_100 : decode cX4_readExpression 100 = .ok (.getfield 37, 3) := by decide +kernel
theorem dX4_readExpression_103 : decode cX4_readExpression 103 = .ok (.iconst 1, 1) := by decide +kernel
theorem dX4_readExpression_104 : decode cX4_readExpression 104 = .ok (.iadd, 1) := by decide +kernel
theorem dX4_readExpression_105 : decode cX4_readExpression 105 = .ok (.putfield 37, 3) := by decide +kernel
theorem dX4_readExpression_108 : decode cX4_readExpression 108 = .ok (.iinc 3 1, 3) := by decide +kernel
theorem dX4_readExpression_111 : decode cX4_readExpression 111 = .ok (.goto (-107), 3) := by decide +kernel
theorem dX4_readExpression_114 : decode cX4_readExpression 114 = .ok (.iload_n 2, 1) := by decide +kernel
theorem dX4_readExpression_115 : decode cX4_readExpression 115 = .ok (.ifCond .le 10, 3) := by decide +kernel
theorem dX4_readExpression_118 : decode cX4_readExpression 118 = .ok (.aload_n 0, 1) := by decide +kernel
theorem dX4_readExpression_119 : decode cX4_readExpression 119 = .ok (.invokevirtual 40, 3) := by decide +kernel
theorem dX4_readExpression_122 : decode cX4_readExpression 122 = .ok (.pop, 1) := by decide +kernel
theorem dX4_readExpression_123 : decode cX4_readExpression 123 = .ok (.iconst 0, 1) := by decide +kernel
theorem dX4_readExpression_124 : decode cX4_readExpression 124 = .ok (.ireturn, 1) := by decide +kernel
theorem dX4_readExpression_125 : decode cX4_readExpression 125 = .ok (.iconst 1, 1) := by decide +kernel
theorem dX4_readExpression_126 : decode cX4_readExpression 126 = .ok (.ireturn, 1) := by decide +kernel
set_option maxHeartbeats 4000000 in
set_option maxRecDepth 10000 in
theorem vX4_readExpression_0 {l : Launch} {M : sl_M} {Q : sl_R} {x1 : Int} (H : sl_RM M → sl_rg x1 → sl_At l mX4_readExpression 4 [(0, vR 2 0), (1, vI x1), (2, vI 1), (3, vI 0)] [] M Q) : sl_At l mX4_readExpression 0 [(0, vR 2 0), (1, vI x1)] [] M Q := by
  refine sl_At.in (fun hM hls => ?_)
  have g1 : sl_rg x1 := hls _ (List.mem_of_getElem? (i := 1) rfl)
  have H := H hM g1
  refine r_iconst dX4_readExpression_0 ?_
  refine r_istore_n (ls' := [(2, vI 1), (0, vR 2 0), (1, vI x1)]) ⟨by decide, by decide⟩ rfl (by decide) rfl dX4_readExpression_1 ?_
  refine r_iconst dX4_readExpression_2 ?_
  refine r_istore_n (ls' := [(3, vI 0), (2, vI 1), (0, vR 2 0), (1, vI x1)]) ⟨by decide, by decide⟩ rfl (by decide) rfl dX4_readExpression_3 ?_
  exact sl_At.sub [2, 3, 1, 0] rfl H
set_option maxHeartbeats 4000000 in
set_option maxRecDepth 10000 in
theorem vX4_readExpression_4 {l : Launch} {M : sl_M} {Q : sl_R} {x1 x2 x3 : Int} (H : sl_RM M → sl_rg x1 → sl_rg x2 → sl_rg x3 → ((12 ≤ x3) → ((x2 ≤ 0) → Q (some (vI 1)) M) ∧ ((¬ (x2 ≤ 0)) → sl_RI l mX4_look [vR 2 0] M (fun y4 M3 => Q (some (vI 0)) M3))) ∧ ((¬ (12 ≤ x3)) → ((x2 ≤ 0) → ((x2 ≤ 0) → Q (some (vI 1)) M) ∧ ((¬ (x2 ≤ 0)) → sl_RI l mX4_look [vR 2 0] M (fun y8 M7 => Q (some (vI 0)) M7))) ∧ ((¬ (x2 ≤ 0)) → sl_RI l mX4_look [vR 2 0] M (fun y10 M9 => (∀ y11 : Int, y11 = sp_var y10 → ((sp_op y10) → sl_At l mX4_readExpression 51 [(0, vR 2 0), (1, vI x1), (2, vI x2), (3, vI x3), (4, vI y10), (5, vI y11)] [] M9 Q) ∧ ((¬ (sp_op y10)) → ((48 ≤ y10 ∧ y10 ≤ 57) → sl_At l mX4_readExpression 51 [(0, vR 2 0), (1, vI x1), (2, vI x2), (3, vI x3), (4, vI y10), (5, vI y11)] [] M9 Q) ∧ ((¬ (48 ≤ y10 ∧ y10 ≤ 57)) → ((y11 ≠ (-1)) → sl_At l mX4_readExpression 51 [(0, vR 2 0), (1, vI x1), (2, vI x2), (3, vI x3), (4, vI y10), (5, vI y11)] [] M9 Q) ∧ ((¬ (y11 ≠ (-1))) → Q (some (vI 0)) M9)))))))) : sl_At l mX4_readExpression 4 [(0, vR 2 0), (1, vI x1), (2, vI x2), (3, vI x3)] [] M Q := by
  refine sl_At.in (fun hM hls => ?_)
  have g1 : sl_rg x1 := hls _ (List.mem_of_getElem? (i := 1) rfl)
  have g2 : sl_rg x2 := hls _ (List.mem_of_getElem? (i := 2) rfl)
  have g3 : sl_rg x3 := hls _ (List.mem_of_getElem? (i := 3) rfl)
  have H := H hM g1 g2 g3
  refine r_iload_n (k := 3) rfl rfl dX4_readExpression_4 ?_
  refine r_bipush dX4_readExpression_5 (by decide) ?_
  refine r_icmp_ge (tgt := 114) g3 ⟨by decide, by decide⟩ dX4_readExpression_7 (by decide) (fun h1 => ?_) (fun h1 => ?_)
  · have H := H.1 h1
    refine r_iload_n (k := 2) rfl rfl dX4_readExpression_114 ?_
    refine r_if_le (tgt := 125) g2 dX4_readExpression_115 (by decide) (fun h2 => ?_) (fun h2 => ?_)
    · have H := H.1 h2
      refine r_iconst dX4_readExpression_125 ?_
      refine r_zret rfl (Or.inr rfl) dX4_readExpression_126 ?_
      exact H
    · have H := H.2 h2
      refine r_aload_n (k := 0) rfl rfl dX4_readExpression_118 ?_
      refine r_callV (g := mX4_look) ckX4 rfl rfl rfl rfl mkX4_look mvX4_look ml_X4_40 ⟨by decide, by decide⟩ rfl (Nat.le_of_ble_eq_true rfl) rfl ok_n dX4_readExpression_119 (sl_afterI (sl_RI.mono (fun y4 M3 gy4 hM3 H => ?_) H))
      refine r_pop rfl dX4_readExpression_122 ?_
      refine r_iconst dX4_readExpression_123 ?_
      refine r_zret rfl (Or.inl rfl) dX4_readExpression_124 ?_
      exact H
  · have H := H.2 h1
    refine r_iload_n (k := 2) rfl rfl dX4_readExpression_10 ?_
    refine r_if_le (tgt := 114) g2 dX4_readExpression_11 (by decide) (fun h5 => ?_) (fun h5 => ?_)
    · have H := H.1 h5
      refine r_iload_n (k := 2) rfl rfl dX4_readExpression_114 ?_
      refine r_if_le (tgt := 125) g2 dX4_readExpression_115 (by decide) (fun h6 => ?_) (fun h6 => ?_)
      · have H := H.1 h6
        refine r_iconst dX4_readExpression_125 ?_
        refine r_zret rfl (Or.inr rfl) dX4_readExpression_126 ?_
        exact H
      · have H := H.2 h6
        refine r_aload_n (k := 0) rfl rfl dX4_readExpression_118 ?_
        refine r_callV (g := mX4_look) ckX4 rfl rfl rfl rfl mkX4_look mvX4_look ml_X4_40 ⟨by decide, by decide⟩ rfl (Nat.le_of_ble_eq_true rfl) rfl ok_n dX4_readExpression_119 (sl_afterI (sl_RI.mono (fun y8 M7 gy8 hM7 H => ?_) H))
        refine r_pop rfl dX4_readExpression_122 ?_
        refine r_iconst dX4_readExpression_123 ?_
        refine r_zret rfl (Or.inl rfl) dX4_readExpression_124 ?_
        exact H
    · have H := H.2 h5
      refine r_aload_n (k := 0) rfl rfl dX4_readExpression_14 ?_
      refine r_callV (g := mX4_look) ckX4 rfl rfl rfl rfl mkX4_look mvX4_look ml_X4_40 ⟨by decide, by decide⟩ rfl (Nat.le_of_ble_eq_true rfl) rfl ok_n dX4_readExpression_15 (sl_afterI (sl_RI.mono (fun y10 M9 gy10 hM9 H => ?_) H))
      refine r_istore (ls' := [(4, vI y10), (0, vR 2 0), (1, vI x1), (2, vI x2), (3, vI x3)]) gy10 (by decide) rfl dX4_readExpression_18 ?_
      refine r_iload (k := 0) rfl dX4_readExpression_20 ?_
      refine r_callSN (g := mX9_variableOf) rfl mkX9_variableOf msX9_variableOf mn_X4_81 ⟨by decide, by decide⟩ rfl (Nat.le_of_ble_eq_true rfl) rfl (ok_i gy10 ok_n) dX4_readExpression_22 (sl_afterI (sl_RI.by kX9_variableOf ?_))
      refine r_nm (fun y11 fy11 => ?_)
      have H := H y11 fy11
      have gy11 : sl_rg y11 := by rw [fy11]; exact (rgkX9_variableOf _)
      refine r_istore (ls' := [(5, vI y11), (4, vI y10), (0, vR 2 0), (1, vI x1), (2, vI x2), (3, vI x3)]) gy11 (by decide) rfl dX4_readExpression_25 ?_
      refine r_iload (k := 1) rfl dX4_readExpression_27 ?_
      refine r_callSN (g := mX9_isOperator) rfl mkX9_isOperator msX9_isOperator mn_X4_90 ⟨by decide, by decide⟩ rfl (Nat.le_of_ble_eq_true rfl) rfl (ok_i gy10 ok_n) dX4_readExpression_29 (sl_afterI (sl_RI.by kX9_isOperator ?_))
      refine r_if_ne (tgt := 51) rg_b dX4_readExpression_32 (by decide) (fun h12 => ?_) (fun h12 => ?_)
      · have H := H.1 (b_ne0.mp h12)
        exact sl_At.sub [2, 3, 4, 5, 1, 0] rfl H
      · have H := H.2 (b_eq0.mp (Decidable.of_not_not h12))
        refine r_iload (k := 1) rfl dX4_readExpression_35 ?_
        refine r_callSN (g := mX9_isDigit) rfl mkX9_isDigit msX9_isDigit mn_X4_93 ⟨by decide, by decide⟩ rfl (Nat.le_of_ble_eq_true rfl) rfl (ok_i gy10 ok_n) dX4_readExpression_37 (sl_afterI (sl_RI.by kX9_isDigit ?_))
        refine r_if_ne (tgt := 51) rg_b dX4_readExpression_40 (by decide) (fun h13 => ?_) (fun h13 => ?_)
        · have H := H.1 (b_ne0.mp h13)
          exact sl_At.sub [2, 3, 4, 5, 1, 0] rfl H
        · have H := H.2 (b_eq0.mp (Decidable.of_not_not h13))
          refine r_iload (k := 0) rfl dX4_readExpression_43 ?_
          refine r_iconst dX4_readExpression_45 ?_
          refine r_icmp_ne (tgt := 51) gy11 ⟨by decide, by decide⟩ dX4_readExpression_46 (by decide) (fun h14 => ?_) (fun h14 => ?_)
          · have H := H.1 h14
            exact sl_At.sub [2, 3, 4, 5, 1, 0] rfl H
          · have H := H.2 h14
            refine r_iconst dX4_readExpression_49 ?_
            refine r_zret rfl (Or.inl rfl) dX4_readExpression_50 ?_
            exact H
set_option maxHeartbeats 4000000 in
set_option maxRecDepth 10000 in
theorem vX4_readExpression_51 {l : Launch} {M : sl_M} {Q : sl_R} {x1 x2 x3 x4 x5 : Int} (H : sl_RM M → sl_rg x1 → sl_rg x2 → sl_rg x3 → sl_rg x4 → sl_rg x5 → (sl_rg (x2 + (if ¬ (sp_op x4) then (-1) else 1))) ∧ (∀ y3 : Int, y3 = x2 + (if ¬ (sp_op x4) then (-1) else 1) → ((x5 = (-1)) → sl_At l mX4_readExpression 89 [(0, vR 2 0), (1, vI x1), (2, vI y3), (3, vI x3), (4, vI x4)] [] M Q) ∧ ((¬ (x5 = (-1))) → (∃ q5 : Nat, (M 2 0 2 = (q5 : Int) + 1 ∧ sl_cls q5 = 0) ∧ (0 ≤ x1 ∧ x1 < 40) ∧ (∀ M7, M7 = sl_wr M q5 10 x1 (ior (M q5 10 x1) (ishl 1 x5)) → sl_At l mX4_readExpression 89 [(0, vR 2 0), (1, vI x1), (2, vI y3), (3, vI x3), (4, vI x4)] [] M7 Q))))) : sl_At l mX4_readExpression 51 [(0, vR 2 0), (1, vI x1), (2, vI x2), (3, vI x3), (4, vI x4), (5, vI x5)] [] M Q := by
  refine sl_At.in (fun hM hls => ?_)
  have g1 : sl_rg x1 := hls _ (List.mem_of_getElem? (i := 1) rfl)
  have g2 : sl_rg x2 := hls _ (List.mem_of_getElem? (i := 2) rfl)
  have g3 : sl_rg x3 := hls _ (List.mem_of_getElem? (i := 3) rfl)
  have g4 : sl_rg x4 := hls _ (List.mem_of_getElem? (i := 4) rfl)
  have g5 : sl_rg x5 := hls _ (List.mem_of_getElem? (i := 5) rfl)
  have H := H hM g1 g2 g3 g4 g5
  refine r_iload_n (k := 2) rfl rfl dX4_readExpression_51 ?_
  refine r_iload (k := 4) rfl dX4_readExpression_52 ?_
  refine r_callSN (g := mX9_isOperator) rfl mkX9_isOperator msX9_isOperator mn_X4_90 ⟨by decide, by decide⟩ rfl (Nat.le_of_ble_eq_true rfl) rfl (ok_i g4 ok_n) dX4_readExpression_54 (sl_afterI (sl_RI.by kX9_isOperator ?_))
  have J : sl_At l mX4_readExpression 65 [(0, vR 2 0), (1, vI x1), (2, vI x2), (3, vI x3), (4, vI x4), (5, vI x5)] [vI (if ¬ (sp_op x4) then (-1) else 1), vI x2] M Q := by
    refine r_iadd dX4_readExpression_65 ?_
    obtain ⟨c2, H⟩ := H
    refine r_nm (fun y3 fy3 => ?_)
    have H := H y3 fy3
    have gy3 : sl_rg y3 := by rw [fy3]; exact c2
    refine r_istore_n (ls' := [(2, vI y3), (0, vR 2 0), (1, vI x1), (3, vI x3), (4, vI x4), (5, vI x5)]) gy3 rfl (by decide) rfl dX4_readExpression_66 ?_
    refine r_iload (k := 5) rfl dX4_readExpression_67 ?_
    refine r_iconst dX4_readExpression_69 ?_
    refine r_icmp_eq (tgt := 89) g5 ⟨by decide, by decide⟩ dX4_readExpression_70 (by decide) (fun h4 => ?_) (fun h4 => ?_)
    · have H := H.1 h4
      exact sl_At.sub [1, 2, 0, 3, 4] rfl H
    · have H := H.2 h4
      refine r_aload_n (k := 1) rfl rfl dX4_readExpression_73 ?_
      obtain ⟨q5, ⟨wq5, zq5⟩, H⟩ := H
      refine r_getC (hw := rfl) wq5 fl_X4_25 dX4_readExpression_74 ?_
      refine r_getR (k := 9) (o' := q5) (i' := 10) ckX0 zq5 rfl (by decide) rfl rfl rfl fl_X4_96 dX4_readExpression_77 ?_
      refine r_iload_n (k := 2) rfl rfl dX4_readExpression_80 ?_
      refine r_dup2 rfl rfl dX4_readExpression_81 ?_
      obtain ⟨c6, H⟩ := H
      refine r_iald zq5 rfl rfl c6 dX4_readExpression_82 ?_
      refine r_iconst dX4_readExpression_83 ?_
      refine r_iload (k := 5) rfl dX4_readExpression_84 ?_
      refine r_ishl dX4_readExpression_86 ?_
      refine r_ior dX4_readExpression_87 ?_
      refine r_iast zq5 rfl rfl c6 (rg_ior _ _) dX4_readExpression_88 ?_
      refine r_mm (fun M7 e7 => ?_)
      have H := H M7 e7
      have hM7 : sl_RM M7 := by rw [e7]; exact sl_wr_RM hM (rg_ior _ _)
      exact sl_At.sub [1, 2, 0, 3, 4] rfl H
  refine r_if_eq (tgt := 64) rg_b dX4_readExpression_57 (by decide) (fun h1 => ?_) (fun h1 => ?_)
  · replace h1 := (b_eq0.mp h1)
    refine r_iconst dX4_readExpression_64 ?_
    rw [if_pos h1] at J
    exact J
  · replace h1 := (b_ne0.mp h1)
    refine r_iconst dX4_readExpression_60 ?_
    refine r_goto (tgt := 65) dX4_readExpression_61 (by decide) ?_
    rw [if_neg (fun q => q h1)] at J
    exact J
set_option maxHeartbeats 4000000 in
set_option maxRecDepth 10000 in
theorem vX4_readExpression_89 {l : Launch} {M : sl_M} {Q : sl_R} {x1 x2 x3 x4 : Int} (H : sl_RM M → sl_rg x1 → sl_rg x2 → sl_rg x3 → sl_rg x4 → (∃ q1 : Nat, (M 2 0 2 = (q1 : Int) + 1 ∧ sl_cls q1 = 0) ∧ sl_RV l mX0_put [vR q1 0, vI x4] M (fun M2 => (sl_rg (M2 2 0 4 + 1)) ∧ (∀ M4, M4 = sl_wr M2 2 0 4 (M2 2 0 4 + 1) → (sl_rg (x3 + 1)) ∧ sl_At l mX4_readExpression 4 [(0, vR 2 0), (1, vI x1), (2, vI x2), (3, vI (x3 + 1))] [] M4 Q)))) : sl_At l mX4_readExpression 89 [(0, vR 2 0), (1, vI x1), (2, vI x2), (3, vI x3), (4, vI x4)] [] M Q := by
  refine sl_At.in (fun hM hls => ?_)
  have g1 : sl_rg x1 := hls _ (List.mem_of_getElem? (i := 1) rfl)
  have g2 : sl_rg x2 := hls _ (List.mem_of_getElem? (i := 2) rfl)
  have g3 : sl_rg x3 := hls _ (List.mem_of_getElem? (i := 3) rfl)
  have g4 : sl_rg x4 := hls _ (List.mem_of_getElem? (i := 4) rfl)
  have H := H hM g1 g2 g3 g4
  refine r_aload_n (k := 0) rfl rfl dX4_readExpression_89 ?_
  obtain ⟨q1, ⟨wq1, zq1⟩, H⟩ := H
  refine r_getC (hw := rfl) wq1 fl_X4_25 dX4_readExpression_90 ?_
  refine r_iload (k := 4) rfl dX4_readExpression_93 ?_
  refine r_callV (g := mX0_put) ckX0 zq1 rfl rfl rfl mkX0_put mvX0_put ml_X4_99 ⟨by decide, by decide⟩ rfl (Nat.le_of_ble_eq_true rfl) rfl (ok_i g4 ok_n) dX4_readExpression_95 (sl_afterV (sl_RV.mono (fun M2 hM2 H => ?_) H))
  refine r_aload_n (k := 0) rfl rfl dX4_readExpression_98 ?_
  refine r_dup rfl dX4_readExpression_99 ?_
  refine r_gI (k := 4) (kz := 4) rfl ckX4 rfl rfl (by decide) rfl rfl fl_X4_37 dX4_readExpression_100 ?_
  refine r_iconst dX4_readExpression_103 ?_
  refine r_iadd dX4_readExpression_104 ?_
  obtain ⟨c3, H⟩ := H
  refine r_pI (k := 4) (kz := 4) rfl ckX4 rfl rfl (by decide) rfl rfl rfl rfl fl_X4_37 c3 dX4_readExpression_105 ?_
  refine r_mm (fun M4 e4 => ?_)
  have H := H M4 e4
  have hM4 : sl_RM M4 := by rw [e4]; exact sl_wr_RM hM2 c3
  obtain ⟨c5, H⟩ := H
  refine r_iinc (k := 3) (ls' := [(3, vI (x3 + 1)), (0, vR 2 0), (1, vI x1), (2, vI x2), (4, vI x4)]) rfl c5 (by decide) rfl dX4_readExpression_108 ?_
  refine r_goto (tgt := 4) dX4_readExpression_111 (by decide) ?_
  exact sl_At.sub [1, 2, 3, 0] rfl H
theorem eX4_readExpression {l : Launch} {M : sl_M} {Q : sl_R} {x1 : Int} (k : sl_At l mX4_readExpression 0 [(0, vR 2 0), (1, vI x1)] [] M Q) : sl_Runs l mX4_readExpression [vR 2 0, vI x1] M Q := sl_Runs.of (ls := [(0, vR 2 0), (1, vI x1)]) rfl rfl (fun _ => rfl) (fun _ => Nat.le_of_ble_eq_true rfl) rfl (k)
theorem dX4_kindOf_0 : decode cX4_kindOf 0 = .ok (.iload_n 0, 1) := by decide +kernel
theorem dX4_kindOf_1 : decode cX4_kindOf 1 = .ok (.lookupswitch 72 #[(33, 63), (35, 59), (42, 69), (60, 61), (63, 67), (94, 65)], 59) := by decide +kernel
theorem dX4_kindOf_60 : decode cX4_kindOf 60 = .ok (.iconst 1, 1) := by decide +kernel
theorem dX4_kindOf_61 : decode cX4_kindOf 61 = .ok (.ireturn, 1) := by decide +kernel
theorem dX4_kindOf_62 : decode cX4_kindOf 62 = .ok (.iconst 2, 1) := by decide +kernel
theorem dX4_kindOf_63 : decode cX4_kindOf 63 = .ok (.ireturn, 1) := by decide +kernel
theorem dX4_kindOf_64 : decode cX4_kindOf 64 = .ok (.iconst 3, 1) := by decide +kernel
theorem dX4_kindOf_65 : decode cX4_kindOf 65 = .ok (.ireturn, 1) := by decide +kernel
theorem dX4_kindOf_66 : decode cX4_kindOf 66 = .ok (.iconst 4, 1) := by decide +kernel
theorem dX4_kindOf_67 : decode cX4_kindOf 67 = .ok (.ireturn, 1) := by decide +kernel
theorem dX4_kindOf_68 : decode cX4_kindOf 68 = .ok (.iconst 5, 1) := by decide +kernel
theorem dX4_kindOf_69 : decode cX4_kindOf 69 = .ok (.ireturn, 1) := by decide +kernel
theorem dX4_kindOf_70 : decode cX4_kindOf 70 = .ok (.bipush 6, 2) := by decide +kernel
theorem dX4_kindOf_72 : decode cX4_kindOf 72 = .ok (.ireturn, 1) := by decide +kernel
theorem dX4_kindOf_73 : decode cX4_kindOf 73 = .ok (.iload_n 0, 1) := by decide +kernel
theorem dX4_kindOf_74 : decode cX4_kindOf 74 = .ok (.invokestatic 81, 3) := by decide +kernel
theorem dX4_kindOf_77 : decode cX4_kindOf 77 = .ok (.iconst (-1), 1) := by decide +kernel
theorem dX4_kindOf_78 : decode cX4_kindOf 78 = .ok (.if_icmp .ne 7, 3) := by decide +kernel
theorem dX4_kindOf_81 : decode cX4_kindOf 81 = .ok (.iconst (-1), 1) := by decide +kernel
theorem dX4_kindOf_82 : decode cX4_kindOf 82 = .ok (.goto 4, 3) := by decide +kernel
theorem dX4_kindOf_85 : decode cX4_kindOf 85 = .ok (.iconst 0, 1) := by decide +kernel
theorem dX4_kindOf_86 : decode cX4_kindOf 86 = .ok (.ireturn, 1) := by decide +kernel
set_option maxHeartbeats 4000000 in
set_option maxRecDepth 10000 in
theorem vX4_kindOf_0 {l : Launch} {M : sl_M} {Q : sl_R} {x0 : Int} (H : sl_RM M → sl_rg x0 → ((x0 = 33) → Q (some (vI 3)) M) ∧ ((x0 = 35) → Q (some (vI 1)) M) ∧ ((x0 = 42) → Q (some (vI 6)) M) ∧ ((x0 = 60) → Q (some (vI 2)) M) ∧ ((x0 = 63) → Q (some (vI 5)) M) ∧ ((x0 = 94) → Q (some (vI 4)) M) ∧ ((¬ (x0 = 33) ∧ ¬ (x0 = 35) ∧ ¬ (x0 = 42) ∧ ¬ (x0 = 60) ∧ ¬ (x0 = 63) ∧ ¬ (x0 = 94)) → Q (some (vI (if sp_var x0 ≠ (-1) then 0 else (-1)))) M)) : sl_At l mX4_kindOf 0 [(0, vI x0)] [] M Q := by
  refine sl_At.in (fun hM hls => ?_)
  have g0 : sl_rg x0 := hls _ (List.mem_of_getElem? (i := 0) rfl)
  have H := H hM g0
  refine r_iload_n (k := 0) rfl rfl dX4_kindOf_0 ?_
  by_cases h1 : x0 = 33
  · refine r_ls (tgt := 64) (off := 63) g0 dX4_kindOf_1 (by decide) (by rw [h1]; decide +kernel) (by decide) ?_
    have H := H.1 h1
    refine r_iconst dX4_kindOf_64 ?_
    refine r_iret rfl ⟨by decide, by decide⟩ dX4_kindOf_65 ?_
    exact H
  replace H := H.2
  by_cases h2 : x0 = 35
  · refine r_ls (tgt := 60) (off := 59) g0 dX4_kindOf_1 (by decide) (by rw [h2]; decide +kernel) (by decide) ?_
    have H := H.1 h2
    refine r_iconst dX4_kindOf_60 ?_
    refine r_iret rfl ⟨by decide, by decide⟩ dX4_kindOf_61 ?_
    exact H
  replace H := H.2
  by_cases h3 : x0 = 42
  · refine r_ls (tgt := 70) (off := 69) g0 dX4_kindOf_1 (by decide) (by rw [h3]; decide +kernel) (by decide) ?_
    have H := H.1 h3
    refine r_bipush dX4_kindOf_70 (by decide) ?_
    refine r_iret rfl ⟨by decide, by decide⟩ dX4_kindOf_72 ?_
    exact H
  replace H := H.2
  by_cases h4 : x0 = 60
  · refine r_ls (tgt := 62) (off := 61) g0 dX4_kindOf_1 (by decide) (by rw [h4]; decide +kernel) (by decide) ?_
    have H := H.1 h4
    refine r_iconst dX4_kindOf_62 ?_
    refine r_iret rfl ⟨by decide, by decide⟩ dX4_kindOf_63 ?_
    exact H
  replace H := H.2
  by_cases h5 : x0 = 63
  · refine r_ls (tgt := 68) (off := 67) g0 dX4_kindOf_1 (by decide) (by rw [h5]; decide +kernel) (by decide) ?_
    have H := H.1 h5
    refine r_iconst dX4_kindOf_68 ?_
    refine r_iret rfl ⟨by decide, by decide⟩ dX4_kindOf_69 ?_
    exact H
  replace H := H.2
  by_cases h6 : x0 = 94
  · refine r_ls (tgt := 66) (off := 65) g0 dX4_kindOf_1 (by decide) (by rw [h6]; decide +kernel) (by decide) ?_
    have H := H.1 h6
    refine r_iconst dX4_kindOf_66 ?_
    refine r_iret rfl ⟨by decide, by decide⟩ dX4_kindOf_67 ?_
    exact H
  replace H := H.2
  refine r_ls (tgt := 73) (off := 72) g0 dX4_kindOf_1 (by decide) ?_ (by decide) ?_
  · show Op.lookupswitch.offset [(33, 63), (35, 59), (42, 69), (60, 61), (63, 67), (94, 65)] _ _ = _
    rw [sl_osw h1, sl_osw h2, sl_osw h3, sl_osw h4, sl_osw h5, sl_osw h6]; rfl
  · have H := H ⟨h1, h2, h3, h4, h5, h6⟩
    refine r_iload_n (k := 0) rfl rfl dX4_kindOf_73 ?_
    refine r_callSN (g := mX9_variableOf) rfl mkX9_variableOf msX9_variableOf mn_X4_81 ⟨by decide, by decide⟩ rfl (Nat.le_of_ble_eq_true rfl) rfl (ok_i g0 ok_n) dX4_kindOf_74 (sl_afterI (sl_RI.by kX9_variableOf ?_))
    refine r_iconst dX4_kindOf_77 ?_
    have J : sl_At l mX4_kindOf 86 [(0, vI x0)] [vI (if sp_var x0 ≠ (-1) then 0 else (-1))] M Q := by
      refine r_iret rfl (sl_rgite ⟨by decide, by decide⟩ ⟨by decide, by decide⟩) dX4_kindOf_86 ?_
      exact H
    refine r_icmp_ne (tgt := 85) (rgkX9_variableOf _) ⟨by decide, by decide⟩ dX4_kindOf_78 (by decide) (fun h7 => ?_) (fun h7 => ?_)
    · refine r_iconst dX4_kindOf_85 ?_
      rw [if_pos h7] at J
      exact J
    · refine r_iconst dX4_kindOf_81 ?_
      refine r_goto (tgt := 86) dX4_kindOf_82 (by decide) ?_
      rw [if_neg h7] at J
      exact J
theorem eX4_kindOf {l : Launch} {M : sl_M} {Q : sl_R} {x0 : Int} (k : sl_At l mX4_kindOf 0 [(0, vI x0)] [] M Q) : sl_Runs l mX4_kindOf [vI x0] M Q := sl_Runs.of (ls := [(0, vI x0)]) rfl rfl (fun _ => rfl) (fun _ => Nat.le_of_ble_eq_true rfl) rfl (k)
