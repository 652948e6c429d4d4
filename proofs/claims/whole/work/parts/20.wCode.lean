theorem dX0_empty_0 : decode cX0_empty 0 = .ok (.aload_n 0, 1) := by decide +kernel
theorem dX0_empty_1 : decode cX0_empty 1 = .ok (.iconst 0, 1) := by decide +kernel
theorem dX0_empty_2 : decode cX0_empty 2 = .ok (.putfield 45, 3) := by decide +kernel
theorem dX0_empty_5 : decode cX0_empty 5 = .ok (.aload_n 0, 1) := by decide +kernel
theorem dX0_empty_6 : decode cX0_empty 6 = .ok (.iconst 0, 1) := by decide +kernel
theorem dX0_empty_7 : decode cX0_empty 7 = .ok (.putfield 49, 3) := by decide +kernel
theorem dX0_empty_10 : decode cX0_empty 10 = .ok (.return_, 1) := by decide +kernel
set_option maxHeartbeats 4000000 in
set_option maxRecDepth 10000 in
theorem vX0_empty_0 {l : Launch} {M : sl_M} {Q : sl_R} {o0 : Nat} (ho0 : sl_cls o0 = 0) (H : sl_RM M → (∀ M1, M1 = sl_wr M o0 0 11 0 → (∀ M2, M2 = sl_wr M1 o0 0 12 0 → Q none M2))) : sl_At l mX0_empty 0 [(0, vR o0 0)] [] M Q := by
  refine sl_At.in (fun hM hls => ?_)
  have H := H hM
  refine r_aload_n (k := 0) rfl rfl dX0_empty_0 ?_
  refine r_iconst dX0_empty_1 ?_
  refine r_pI (k := 11) (kz := 11) rfl ckX0 ho0 rfl (by decide) rfl rfl rfl rfl fl_X0_45 ⟨by decide, by decide⟩ dX0_empty_2 ?_
  refine r_mm (fun M1 e1 => ?_)
  have H := H M1 e1
  have hM1 : sl_RM M1 := by rw [e1]; exact sl_wr_RM hM ⟨by decide, by decide⟩
  refine r_aload_n (k := 0) rfl rfl dX0_empty_5 ?_
  refine r_iconst dX0_empty_6 ?_
  refine r_pI (k := 12) (kz := 12) rfl ckX0 ho0 rfl (by decide) rfl rfl rfl rfl fl_X0_49 ⟨by decide, by decide⟩ dX0_empty_7 ?_
  refine r_mm (fun M2 e2 => ?_)
  have H := H M2 e2
  have hM2 : sl_RM M2 := by rw [e2]; exact sl_wr_RM hM1 ⟨by decide, by decide⟩
  refine r_vret rfl dX0_empty_10 ?_
  exact H
theorem eX0_empty {l : Launch} {M : sl_M} {Q : sl_R} {o0 : Nat} (k : sl_At l mX0_empty 0 [(0, vR o0 0)] [] M Q) : sl_Runs l mX0_empty [vR o0 0] M Q := sl_Runs.of (ls := [(0, vR o0 0)]) rfl rfl (fun _ => rfl) (fun _ => Nat.le_of_ble_eq_true rfl) rfl (k)
theorem dX0_holds_0 : decode cX0_holds 0 = .ok (.iload_n 1, 1) := by decide +kernel
theorem dX0_holds_1 : decode cX0_holds 1 = .ok (.ifCond .lt 15, 3) := by decide +kernel
theorem dX0_holds_4 : decode cX0_holds 4 = .ok (.iload_n 1, 1) := by decide +kernel
theorem dX0_holds_5 : decode cX0_holds 5 = .ok (.aload_n 0, 1) := by decide +kernel
theorem dX0_holds_6 : decode cX0_holds 6 = .ok (.getfield 45, 3) := by decide +kernel
theorem dX0_holds_9 : decode cX0_holds 9 = .ok (.if_icmp .ge 7, 3) := by decide +kernel
theorem dX0_holds_12 : decode cX0_holds 12 = .ok (.iconst 1, 1) := by decide +kernel
theorem dX0_holds_13 : decode cX0_holds 13 = .ok (.goto 4, 3) := by decide +kernel
theorem dX0_holds_16 : decode cX0_holds 16 = .ok (.iconst 0, 1) := by decide +kernel
theorem dX0_holds_17 : decode cX0_holds 17 = .ok (.ireturn, 1) := by decide +kernel
set_option maxHeartbeats 4000000 in
set_option maxRecDepth 10000 in
theorem vX0_holds_0 {l : Launch} {M : sl_M} {Q : sl_R} {o0 : Nat} {x1 : Int} (ho0 : sl_cls o0 = 0) (H : sl_RM M → sl_rg x1 → Q (some (vI (if (¬ (x1 < 0)) ∧ (¬ (M o0 0 11 ≤ x1)) then 1 else 0))) M) : sl_At l mX0_holds 0 [(0, vR o0 0), (1, vI x1)] [] M Q := by
  refine sl_At.in (fun hM hls => ?_)
  have g1 : sl_rg x1 := hls _ (List.mem_of_getElem? (i := 1) rfl)
  have H := H hM g1
  refine r_iload_n (k := 1) rfl rfl dX0_holds_0 ?_
  have J : sl_At l mX0_holds 17 [(0, vR o0 0), (1, vI x1)] [vI (if (¬ (x1 < 0)) ∧ (¬ (M o0 0 11 ≤ x1)) then 1 else 0)] M Q := by
    refine r_zret rfl b_01 dX0_holds_17 ?_
    exact H
  refine r_if_lt (tgt := 16) g1 dX0_holds_1 (by decide) (fun h1 => ?_) (fun h1 => ?_)
  · refine r_iconst dX0_holds_16 ?_
    rw [if_neg (show ¬ ((¬ (x1 < 0)) ∧ (¬ (M o0 0 11 ≤ x1))) by omega)] at J
    exact J
  · refine r_iload_n (k := 1) rfl rfl dX0_holds_4 ?_
    refine r_aload_n (k := 0) rfl rfl dX0_holds_5 ?_
    refine r_gI (k := 11) (kz := 11) rfl ckX0 ho0 rfl (by decide) rfl rfl fl_X0_45 dX0_holds_6 ?_
    refine r_icmp_ge (tgt := 16) g1 (hM _ _ _) dX0_holds_9 (by decide) (fun h2 => ?_) (fun h2 => ?_)
    · refine r_iconst dX0_holds_16 ?_
      rw [if_neg (show ¬ ((¬ (x1 < 0)) ∧ (¬ (M o0 0 11 ≤ x1))) by omega)] at J
      exact J
    · refine r_iconst dX0_holds_12 ?_
      refine r_goto (tgt := 17) dX0_holds_13 (by decide) ?_
      rw [if_pos (show (¬ (x1 < 0)) ∧ (¬ (M o0 0 11 ≤ x1)) by omega)] at J
      exact J
theorem eX0_holds {l : Launch} {M : sl_M} {Q : sl_R} {o0 : Nat} {x1 : Int} (k : sl_At l mX0_holds 0 [(0, vR o0 0), (1, vI x1)] [] M Q) : sl_Runs l mX0_holds [vR o0 0, vI x1] M Q := sl_Runs.of (ls := [(0, vR o0 0), (1, vI x1)]) rfl rfl (fun _ => rfl) (fun _ => Nat.le_of_ble_eq_true rfl) rfl (k)
theorem dX0_add_0 : decode cX0_add 0 = .ok (.aload_n 0, 1) := by decide +kernel
theorem dX0_add_1 : decode cX0_add 1 = .ok (.getfield 45, 3) := by decide +kernel
theorem dX0_add_4 : decode cX0_add 4 = .ok (.bipush 40, 2) := by decide +kernel
theorem dX0_add_6 : decode cX0_add 6 = .ok (.if_icmp .lt 5, 3) := by decide +kernel
theorem dX0_add_9 : decode cX0_add 9 = .ok (.iconst (-1), 1) := by decide +kernel
theorem dX0_add_10 : decode cX0_add 10 = .ok (.ireturn, 1) := by decide +kernel
theorem dX0_add_11 : decode cX0_add 11 = .ok (.aload_n 0, 1) := by decide +kernel
theorem dX0_add_12 : decode cX0_add 12 = .ok (.getfield 45, 3) := by decide +kernel
theorem dX0_add_15 : decode cX0_add 15 = .ok (.istore 4, 2) := by decide +kernel
theorem dX0_add_17 : decode cX0_add 17 = .ok (.aload_n 0, 1) := by decide +kernel
theorem dX0_add_18 : decode cX0_add 18 = .ok (.dup, 1) := by decide +kernel
theorem dX0_add_19 : decode cX0_add 19 = .ok (.getfield 45, 3) := by decide +kernel
theorem dX0_add_22 : decode cX0_add 22 = .ok (.iconst 1, 1) := by decide +kernel
theorem dX0_add_23 : decode cX0_add 23 = .ok (.iadd, 1) := by decide +kernel
theorem dX0_add_24 : decode cX0_add 24 = .ok (.putfield 45, 3) := by decide +kernel
theorem dX0_add_27 : decode cX0_add 27 = .ok (.aload_n 0, 1) := by decide +kernel
theorem dX0_add_28 : decode cX0_add 28 = .ok (.getfield 9, 3) := by decide +kernel
theorem dX0_add_31 : decode cX0_add 31 = .ok (.iload 4, 2) := by decide +kernel
theorem dX0_add_33 : decode cX0_add 33 = .ok (.iload_n 1, 1) := by decide +kernel
theorem dX0_add_34 : decode cX0_add 34 = .ok (.iastore, 1) := by decide +kernel
theorem dX0_add_35 : decode cX0_add 35 = .ok (.aload_n 0, 1) := by decide +kernel
theorem dX0_add_36 : decode cX0_add 36 = .ok (.getfield 15, 3) := by decide +kernel
theorem dX0_add_39 : decode cX0_add 39 = .ok (.iload 4, 2) := by decide +kernel
theorem dX0_add_41 : decode cX0_add 41 = .ok (.iload_n 2, 1) := by decide +kernel
theorem dX0_add_42 : decode cX0_add 42 = .ok (.iastore, 1) := by decide +kernel
theorem dX0_add_43 : decode cX0_add 43 = .ok (.aload_n 0, 1) := by decide +kernel
theorem dX0_add_44 : decode cX0_add 44 = .ok (.getfield 18, 3) := by decide +kernel
theorem dX0_add_47 : decode cX0_add 47 = .ok (.iload 4, 2) := by decide +kernel
theorem dX0_add_49 : decode cX0_add 49 = .ok (.iconst 0, 1) := by decide +kernel
theorem dX0_add_50 : decode cX0_add 50 = .ok (.iastore, 1) := by decide +kernel
theorem dX0_add_51 : decode cX0_add 51 = .ok (.aload_n 0, 1) := by decide +kernel
theorem dX0_add_52 : decode cX0_add 52 = .ok (.getfield 21, 3) := by decide +kernel
theorem dX0_add_55 : decode cX0_add 55 = .ok (.iload 4, 2) := by decide +kernel
theorem dX0_add_57 : decode cX0_add 57 = .ok (.iload_n 3, 1) := by decide +kernel
theorem dX0_add_58 : decode cX0_add 58 = .ok (.iastore, 1) := by decide +kernel
theorem dX0_add_59 : decode cX0_add 59 = .ok (.aload_n 0, 1) := by decide +kernel
theorem dX0_add_60 : decode cX0_add 60 = .ok (.getfield 24, 3) := by decide +kernel
theorem dX0_add_63 : decode cX0_add 63 = .ok (.iload 4, 2) := by decide +kernel
theorem dX0_add_65 : decode cX0_add 65 = .ok (.iconst 0, 1) := by decide +kernel
theorem dX0_add_66 : decode cX0_add 66 = .ok (.iastore, 1) := by decide +kernel
theorem dX0_add_67 : decode cX0_add 67 = .ok (.aload_n 0, 1) := by decide +kernel
theorem dX0_add_68 : decode cX0_add 68 = .ok (.getfield 27, 3) := by decide +kernel
theorem dX0_add_71 : decode cX0_add 71 = .ok (.iload 4, 2) := by decide +kernel
theorem dX0_add_73 : decode cX0_add 73 = .ok (.iconst (-1), 1) := by decide +kernel
theorem dX0_add_74 : decode cX0_add 74 = .ok (.iastore, 1) := by decide +kernel
theorem dX0_add_75 : decode cX0_add 75 = .ok (.aload_n 0, 1) := by decide +kernel
theorem dX0_add_76 : decode cX0_add 76 = .ok (.getfield 30, 3) := by decide +kernel
theorem dX0_add_79 : decode cX0_add 79 = .ok (.iload 4, 2) := by decide +kernel
theorem dX0_add_81 : decode cX0_add 81 = .ok (.ldc 52, 2) := by decide +kernel
theorem dX0_add_83 : decode cX0_add 83 = .ok (.iastore, 1) := by decide +kernel
theorem dX0_add_84 : decode cX0_add 84 = .ok (.aload_n 0, 1) := by decide +kernel
theorem dX0_add_85 : decode cX0_add 85 = .ok (.getfield 33, 3) := by decide +kernel
theorem dX0_add_88 : decode cX0_add 88 = .ok (.iload 4, 2) := by decide +kernel
theorem dX0_add_90 : decode cX0_add 90 = .ok (.aload_n 0, 1) := by decide +kernel
theorem dX0_add_91 : decode cX0_add 91 = .ok (.getfield 49, 3) := by decide +kernel
theorem dX0_add_94 : decode cX0_add 94 = .ok (.iastore, 1) := by decide +kernel
theorem dX0_add_95 : decode cX0_add 95 = .ok (.aload_n 0, 1) := by decide +kernel
theorem dX0_add_96 : decode cX0_add 96 = .ok (.getfield 36, 3) := by decide +kernel
theorem dX0_add_99 : decode cX0_add 99 = .ok (.iload 4, 2) := by decide +kernel
theorem dX0_add_101 : decode cX0_add 101 = .ok (.iconst 0, 1) := by decide +kernel
theorem dX0_add_102 : decode cX0_add 102 = .ok (.iastore, 1) := by decide +kernel
theorem dX0_add_103 : decode cX0_add 103 = .ok (.aload_n 0, 1) := by decide +kernel
theorem dX0_add_104 : decode cX0_add 104 = .ok (.getfield 39, 3) := by decide +kernel
theorem dX0_add_107 : decode cX0_add 107 = .ok (.iload 4, 2) := by decide +kernel
theorem dX0_add_109 : decode cX0_add 109 = .ok (.iconst 0, 1) := by decide +kernel
theorem dX0_add_110 : decode cX0_add 110 = .ok (.iastore, 1) := by decide +kernel
theorem dX0_add_111 : decode cX0_add 111 = .ok (.iload_n 2, 1) := by decide +kernel
theorem dX0_add_112 : decode cX0_add 112 = .ok (.istore 5, 2) := by decide +kernel
theorem dX0_add_114 : decode cX0_add 114 = .ok (.iconst 0, 1) := by decide +kernel
theorem dX0_add_115 : decode cX0_add 115 = .ok (.istore 6, 2) := by decide +kernel
theorem dX0_add_117 : decode cX0_add 117 = .ok (.iload 6, 2) := by decide +kernel
theorem dX0_add_119 : decode cX0_add 119 = .ok (.bipush 40, 2) := by decide +kernel
theorem dX0_add_121 : decode cX0_add 121 = .ok (.if_icmp .ge 34, 3) := by decide +kernel
theorem dX0_add_124 : decode cX0_add 124 = .ok (.iload 5, 2) := by decide +kernel
theorem dX0_add_126 : decode cX0_add 126 = .ok (.ifCond .lt 29, 3) := by decide +kernel
theorem dX0_add_129 : decode cX0_add 129 = .ok (.aload_n 0, 1) := by decide +kernel
theorem dX0_add_130 : decode cX0_add 130 = .ok (.getfield 18, 3) := by decide +kernel
theorem dX0_add_133 : decode cX0_add 133 = .ok (.iload 5, 2) := by decide +kernel
theorem dX0_add_135 : decode cX0_add 135 = .ok (.dup2, 1) := by decide +kernel
theorem dX0_add_136 : decode cX0_add 136 = .ok (.iaload, 1) := by decide +kernel
theorem dX0_add_137 : decode cX0_add 137 = .ok (.iconst 1, 1) := by decide +kernel
theorem dX0_add_138 : decode cX0_add 138 = .ok (.iadd, 1) := by decide +kernel
theorem dX0_add_139 : decode cX0_add 139 = .ok (.iastore, 1) := by decide +kernel
theorem dX0_add_140 : decode cX0_add 140 = .ok (.aload_n 0, 1) := by decide +kernel
theorem dX0_add_141 : decode cX0_add 141 = .ok (.getfield 15, 3) := by decide +kernel
theorem dX0_add_144 : decode cX0_add 144 = .ok (.iload 5, 2) := by decide +kernel
theorem dX0_add_146 : decode cX0_add 146 = .ok (.iaload, 1) := by decide +kernel
theorem dX0_add_147 : decode cX0_add 147 = .ok (.istore 5, 2) := by decide +kernel
theorem dX0_add_149 : decode cX0_add 149 = .ok (.iinc 6 1, 3) := by decide +kernel
theorem dX0_add_152 : decode cX0_add 152 = .ok (.goto (-35), 3) := by decide +kernel
theorem dX0_add_155 : decode cX0_add 155 = .ok (.iload 4, 2) := by decide +kernel
theorem dX0_add_157 : decode cX0_add 157 = .ok (.ireturn, 1) := by decide +kernel
set_option maxHeartbeats 4000000 in
set_option maxRecDepth 10000 in
theorem vX0_add_0 {l : Launch} {M : sl_M} {Q : sl_R} {o0 : Nat} {x1 x2 x3 : Int} (ho0 : sl_cls o0 = 0) (H : sl_RM M → sl_rg x1 → sl_rg x2 → sl_rg x3 → ((M o0 0 11 < 40) → (sl_rg (M o0 0 11 + 1)) ∧ (∀ M3, M3 = sl_wr M o0 0 11 (M o0 0 11 + 1) → (0 ≤ M o0 0 11 ∧ M o0 0 11 < 40) ∧ (∀ M5, M5 = sl_wr M3 o0 1 (M o0 0 11) x1 → (∀ M6, M6 = sl_wr M5 o0 2 (M o0 0 11) x2 → (∀ M7, M7 = sl_wr M6 o0 3 (M o0 0 11) 0 → (∀ M8, M8 = sl_wr M7 o0 4 (M o0 0 11) x3 → (∀ M9, M9 = sl_wr M8 o0 5 (M o0 0 11) 0 → (∀ M10, M10 = sl_wr M9 o0 6 (M o0 0 11) (-1) → (∀ M11, M11 = sl_wr M10 o0 7 (M o0 0 11) 16434824 → (∀ M12, M12 = sl_wr M11 o0 8 (M o0 0 11) (M11 o0 0 12) → (∀ M13, M13 = sl_wr M12 o0 9 (M o0 0 11) 0 → (∀ M14, M14 = sl_wr M13 o0 10 (M o0 0 11) 0 → sl_At l mX0_add 117 [(0, vR o0 0), (4, vI (M o0 0 11)), (5, vI x2), (6, vI 0)] [] M14 Q)))))))))))) ∧ ((¬ (M o0 0 11 < 40)) → Q (some (vI (-1))) M)) : sl_At l mX0_add 0 [(0, vR o0 0), (1, vI x1), (2, vI x2), (3, vI x3)] [] M Q := by
  refine sl_At.in (fun hM hls => ?_)
  have g1 : sl_rg x1 := hls _ (List.mem_of_getElem? (i := 1) rfl)
  have g2 : sl_rg x2 := hls _ (List.mem_of_getElem? (i := 2) rfl)
  have g3 : sl_rg x3 := hls _ (List.mem_of_getElem? (i := 3) rfl)
  have H := H hM g1 g2 g3
  refine r_aload_n (k := 0) rfl rfl dX0_add_0 ?_
  refine r_gI (k := 11) (kz := 11) rfl ckX0 ho0 rfl (by decide) rfl rfl fl_X0_45 dX0_add_1 ?_
  refine r_bipush dX0_add_4 (by decide) ?_
  refine r_icmp_lt (tgt := 11) (hM _ _ _) ⟨by decide, by decide⟩ dX0_add_6 (by decide) (fun h1 => ?_) (fun h1 => ?_)
  · have H := H.1 h1
    refine r_aload_n (k := 0) rfl rfl dX0_add_11 ?_
    refine r_gI (k := 11) (kz := 11) rfl ckX0 ho0 rfl (by decide) rfl rfl fl_X0_45 dX0_add_12 ?_
    refine r_istore (ls' := [(4, vI (M o0 0 11)), (0, vR o0 0), (1, vI x1), (2, vI x2), (3, vI x3)]) (hM _ _ _) (by decide) rfl dX0_add_15 ?_
    refine r_aload_n (k := 1) rfl rfl dX0_add_17 ?_
    refine r_dup rfl dX0_add_18 ?_
    refine r_gI (k := 11) (kz := 11) rfl ckX0 ho0 rfl (by decide) rfl rfl fl_X0_45 dX0_add_19 ?_
    refine r_iconst dX0_add_22 ?_
    refine r_iadd dX0_add_23 ?_
    obtain ⟨c2, H⟩ := H
    refine r_pI (k := 11) (kz := 11) rfl ckX0 ho0 rfl (by decide) rfl rfl rfl rfl fl_X0_45 c2 dX0_add_24 ?_
    refine r_mm (fun M3 e3 => ?_)
    have H := H M3 e3
    have hM3 : sl_RM M3 := by rw [e3]; exact sl_wr_RM hM c2
    refine r_aload_n (k := 1) rfl rfl dX0_add_27 ?_
    refine r_getR (k := 0) (o' := o0) (i' := 1) ckX0 ho0 rfl (by decide) rfl rfl rfl fl_X0_9 dX0_add_28 ?_
    refine r_iload (k := 0) rfl dX0_add_31 ?_
    refine r_iload_n (k := 2) rfl rfl dX0_add_33 ?_
    obtain ⟨c4, H⟩ := H
    refine r_iast ho0 rfl rfl c4 g1 dX0_add_34 ?_
    refine r_mm (fun M5 e5 => ?_)
    have H := H M5 e5
    have hM5 : sl_RM M5 := by rw [e5]; exact sl_wr_RM hM3 g1
    refine r_aload_n (k := 1) rfl rfl dX0_add_35 ?_
    refine r_getR (k := 1) (o' := o0) (i' := 2) ckX0 ho0 rfl (by decide) rfl rfl rfl fl_X0_15 dX0_add_36 ?_
    refine r_iload (k := 0) rfl dX0_add_39 ?_
    refine r_iload_n (k := 3) rfl rfl dX0_add_41 ?_
    refine r_iast ho0 rfl rfl c4 g2 dX0_add_42 ?_
    refine r_mm (fun M6 e6 => ?_)
    have H := H M6 e6
    have hM6 : sl_RM M6 := by rw [e6]; exact sl_wr_RM hM5 g2
    refine r_aload_n (k := 1) rfl rfl dX0_add_43 ?_
    refine r_getR (k := 2) (o' := o0) (i' := 3) ckX0 ho0 rfl (by decide) rfl rfl rfl fl_X0_18 dX0_add_44 ?_
    refine r_iload (k := 0) rfl dX0_add_47 ?_
    refine r_iconst dX0_add_49 ?_
    refine r_iast ho0 rfl rfl c4 ⟨by decide, by decide⟩ dX0_add_50 ?_
    refine r_mm (fun M7 e7 => ?_)
    have H := H M7 e7
    have hM7 : sl_RM M7 := by rw [e7]; exact sl_wr_RM hM6 ⟨by decide, by decide⟩
    refine r_aload_n (k := 1) rfl rfl dX0_add_51 ?_
    refine r_getR (k := 3) (o' := o0) (i' := 4) ckX0 ho0 rfl (by decide) rfl rfl rfl fl_X0_21 dX0_add_52 ?_
    refine r_iload (k := 0) rfl dX0_add_55 ?_
    refine r_iload_n (k := 4) rfl rfl dX0_add_57 ?_
    refine r_iast ho0 rfl rfl c4 g3 dX0_add_58 ?_
    refine r_mm (fun M8 e8 => ?_)
    have H := H M8 e8
    have hM8 : sl_RM M8 := by rw [e8]; exact sl_wr_RM hM7 g3
    refine r_aload_n (k := 1) rfl rfl dX0_add_59 ?_
    refine r_getR (k := 4) (o' := o0) (i' := 5) ckX0 ho0 rfl (by decide) rfl rfl rfl fl_X0_24 dX0_add_60 ?_
    refine r_iload (k := 0) rfl dX0_add_63 ?_
    refine r_iconst dX0_add_65 ?_
    refine r_iast ho0 rfl rfl c4 ⟨by decide, by decide⟩ dX0_add_66 ?_
    refine r_mm (fun M9 e9 => ?_)
    have H := H M9 e9
    have hM9 : sl_RM M9 := by rw [e9]; exact sl_wr_RM hM8 ⟨by decide, by decide⟩
    refine r_aload_n (k := 1) rfl rfl dX0_add_67 ?_
    refine r_getR (k := 5) (o' := o0) (i' := 6) ckX0 ho0 rfl (by decide) rfl rfl rfl fl_X0_27 dX0_add_68 ?_
    refine r_iload (k := 0) rfl dX0_add_71 ?_
    refine r_iconst dX0_add_73 ?_
    refine r_iast ho0 rfl rfl c4 ⟨by decide, by decide⟩ dX0_add_74 ?_
    refine r_mm (fun M10 e10 => ?_)
    have H := H M10 e10
    have hM10 : sl_RM M10 := by rw [e10]; exact sl_wr_RM hM9 ⟨by decide, by decide⟩
    refine r_aload_n (k := 1) rfl rfl dX0_add_75 ?_
    refine r_getR (k := 6) (o' := o0) (i' := 7) ckX0 ho0 rfl (by decide) rfl rfl rfl fl_X0_30 dX0_add_76 ?_
    refine r_iload (k := 0) rfl dX0_add_79 ?_
    refine r_ldc (n := 16434824) co_X0_52 dX0_add_81 ?_
    refine r_iast ho0 rfl rfl c4 ⟨by decide, by decide⟩ dX0_add_83 ?_
    refine r_mm (fun M11 e11 => ?_)
    have H := H M11 e11
    have hM11 : sl_RM M11 := by rw [e11]; exact sl_wr_RM hM10 ⟨by decide, by decide⟩
    refine r_aload_n (k := 1) rfl rfl dX0_add_84 ?_
    refine r_getR (k := 7) (o' := o0) (i' := 8) ckX0 ho0 rfl (by decide) rfl rfl rfl fl_X0_33 dX0_add_85 ?_
    refine r_iload (k := 0) rfl dX0_add_88 ?_
    refine r_aload_n (k := 1) rfl rfl dX0_add_90 ?_
    refine r_gI (k := 12) (kz := 12) rfl ckX0 ho0 rfl (by decide) rfl rfl fl_X0_49 dX0_add_91 ?_
    refine r_iast ho0 rfl rfl c4 (hM11 _ _ _) dX0_add_94 ?_
    refine r_mm (fun M12 e12 => ?_)
    have H := H M12 e12
    have hM12 : sl_RM M12 := by rw [e12]; exact sl_wr_RM hM11 (hM11 _ _ _)
    refine r_aload_n (k := 1) rfl rfl dX0_add_95 ?_
    refine r_getR (k := 8) (o' := o0) (i' := 9) ckX0 ho0 rfl (by decide) rfl rfl rfl fl_X0_36 dX0_add_96 ?_
    refine r_iload (k := 0) rfl dX0_add_99 ?_
    refine r_iconst dX0_add_101 ?_
    refine r_iast ho0 rfl rfl c4 ⟨by decide, by decide⟩ dX0_add_102 ?_
    refine r_mm (fun M13 e13 => ?_)
    have H := H M13 e13
    have hM13 : sl_RM M13 := by rw [e13]; exact sl_wr_RM hM12 ⟨by decide, by decide⟩
    refine r_aload_n (k := 1) rfl rfl dX0_add_103 ?_
    refine r_getR (k := 9) (o' := o0) (i' := 10) ckX0 ho0 rfl (by decide) rfl rfl rfl fl_X0_39 dX0_add_104 ?_
    refine r_iload (k := 0) rfl dX0_add_107 ?_
    refine r_iconst dX0_add_109 ?_
    refine r_iast ho0 rfl rfl c4 ⟨by decide, by decide⟩ dX0_add_110 ?_
    refine r_mm (fun M14 e14 => ?_)
    have H := H M14 e14
    have hM14 : sl_RM M14 := by rw [e14]; exact sl_wr_RM hM13 ⟨by decide, by decide⟩
    refine r_iload_n (k := 3) rfl rfl dX0_add_111 ?_
    refine r_istore (ls' := [(5, vI x2), (4, vI (M o0 0 11)), (0, vR o0 0), (1, vI x1), (2, vI x2), (3, vI x3)]) g2 (by decide) rfl dX0_add_112 ?_
    refine r_iconst dX0_add_114 ?_
    refine r_istore (ls' := [(6, vI 0), (5, vI x2), (4, vI (M o0 0 11)), (0, vR o0 0), (1, vI x1), (2, vI x2), (3, vI x3)]) ⟨by decide, by decide⟩ (by decide) rfl dX0_add_115 ?_
    exact sl_At.sub [3, 2, 1, 0] rfl H
  · have H := H.2 h1
    refine r_iconst dX0_add_9 ?_
    refine r_iret rfl ⟨by decide, by decide⟩ dX0_add_10 ?_
    exact H
set_option maxHeartbeats 4000000 in
set_option maxRecDepth 10000 in
theorem vX0_add_117 {l : Launch} {M : sl_M} {Q : sl_R} {o0 : Nat} {x4 x5 x6 : Int} (ho0 : sl_cls o0 = 0) (H : sl_RM M → sl_rg x4 → sl_rg x5 → sl_rg x6 → ((40 ≤ x6) → Q (some (vI x4)) M) ∧ ((¬ (40 ≤ x6)) → ((x5 < 0) → Q (some (vI x4)) M) ∧ ((¬ (x5 < 0)) → (0 ≤ x5 ∧ x5 < 40) ∧ (sl_rg (M o0 3 x5 + 1)) ∧ (∀ M5, M5 = sl_wr M o0 3 x5 (M o0 3 x5 + 1) → (sl_rg (x6 + 1)) ∧ sl_At l mX0_add 117 [(0, vR o0 0), (4, vI x4), (5, vI (M5 o0 2 x5)), (6, vI (x6 + 1))] [] M5 Q)))) : sl_At l mX0_add 117 [(0, vR o0 0), (4, vI x4), (5, vI x5), (6, vI x6)] [] M Q := by
  refine sl_At.in (fun hM hls => ?_)
  have g4 : sl_rg x4 := hls _ (List.mem_of_getElem? (i := 1) rfl)
  have g5 : sl_rg x5 := hls _ (List.mem_of_getElem? (i := 2) rfl)
  have g6 : sl_rg x6 := hls _ (List.mem_of_getElem? (i := 3) rfl)
  have H := H hM g4 g5 g6
  refine r_iload (k := 3) rfl dX0_add_117 ?_
  refine r_bipush dX0_add_119 (by decide) ?_
  refine r_icmp_ge (tgt := 155) g6 ⟨by decide, by decide⟩ dX0_add_121 (by decide) (fun h1 => ?_) (fun h1 => ?_)
  · have H := H.1 h1
    refine r_iload (k := 1) rfl dX0_add_155 ?_
    refine r_iret rfl g4 dX0_add_157 ?_
    exact H
  · have H := H.2 h1
    refine r_iload (k := 2) rfl dX0_add_124 ?_
    refine r_if_lt (tgt := 155) g5 dX0_add_126 (by decide) (fun h2 => ?_) (fun h2 => ?_)
    · have H := H.1 h2
      refine r_iload (k := 1) rfl dX0_add_155 ?_
      refine r_iret rfl g4 dX0_add_157 ?_
      exact H
    · have H := H.2 h2
      refine r_aload_n (k := 0) rfl rfl dX0_add_129 ?_
      refine r_getR (k := 2) (o' := o0) (i' := 3) ckX0 ho0 rfl (by decide) rfl rfl rfl fl_X0_18 dX0_add_130 ?_
      refine r_iload (k := 2) rfl dX0_add_133 ?_
      refine r_dup2 rfl rfl dX0_add_135 ?_
      obtain ⟨c3, H⟩ := H
      refine r_iald ho0 rfl rfl c3 dX0_add_136 ?_
      refine r_iconst dX0_add_137 ?_
      refine r_iadd dX0_add_138 ?_
      obtain ⟨c4, H⟩ := H
      refine r_iast ho0 rfl rfl c3 c4 dX0_add_139 ?_
      refine r_mm (fun M5 e5 => ?_)
      have H := H M5 e5
      have hM5 : sl_RM M5 := by rw [e5]; exact sl_wr_RM hM c4
      refine r_aload_n (k := 0) rfl rfl dX0_add_140 ?_
      refine r_getR (k := 1) (o' := o0) (i' := 2) ckX0 ho0 rfl (by decide) rfl rfl rfl fl_X0_15 dX0_add_141 ?_
      refine r_iload (k := 2) rfl dX0_add_144 ?_
      refine r_iald ho0 rfl rfl c3 dX0_add_146 ?_
      refine r_istore (ls' := [(5, vI (M5 o0 2 x5)), (0, vR o0 0), (4, vI x4), (6, vI x6)]) (hM5 _ _ _) (by decide) rfl dX0_add_147 ?_
      obtain ⟨c6, H⟩ := H
      refine r_iinc (k := 3) (ls' := [(6, vI (x6 + 1)), (5, vI (M5 o0 2 x5)), (0, vR o0 0), (4, vI x4)]) rfl c6 (by decide) rfl dX0_add_149 ?_
      refine r_goto (tgt := 117) dX0_add_152 (by decide) ?_
      exact sl_At.sub [2, 3, 1, 0] rfl H
theorem eX0_add {l : Launch} {M : sl_M} {Q : sl_R} {o0 : Nat} {x1 x2 x3 : Int} (k : sl_At l mX0_add 0 [(0, vR o0 0), (1, vI x1), (2, vI x2), (3, vI x3)] [] M Q) : sl_Runs l mX0_add [vR o0 0, vI x1, vI x2, vI x3] M Q := sl_Runs.of (ls := [(0, vR o0 0), (1, vI x1), (2, vI x2), (3, vI x3)]) rfl rfl (fun _ => rfl) (fun _ => Nat.le_of_ble_eq_true rfl) rfl (k)
theorem dX0_put_0 : decode cX0_put 0 = .ok (.aload_n 0, 1) := by decide +kernel
theorem dX0_put_1 : decode cX0_put 1 = .ok (.getfield 45, 3) := by decide +kernel
theorem dX0_put_4 : decode cX0_put 4 = .ok (.ifCond .eq 13, 3) := by decide +kernel
theorem dX0_put_7 : decode cX0_put 7 = .ok (.aload_n 0, 1) := by decide +kernel
theorem dX0_put_8 : decode cX0_put 8 = .ok (.getfield 49, 3) := by decide +kernel
theorem dX0_put_11 : decode cX0_put 11 = .ok (.sipush 160, 3) := by decide +kernel
theorem dX0_put_14 : decode cX0_put 14 = .ok (.if_icmp .lt 4, 3) := by decide +kernel
theorem dX0_put_17 : decode cX0_put 17 = .ok (.return_, 1) := by decide +kernel
theorem dX0_put_18 : decode cX0_put 18 = .ok (.aload_n 0, 1) := by decide +kernel
theorem dX0_put_19 : decode cX0_put 19 = .ok (.getfield 42, 3) := by decide +kernel
theorem dX0_put_22 : decode cX0_put 22 = .ok (.aload_n 0, 1) := by decide +kernel
theorem dX0_put_23 : decode cX0_put 23 = .ok (.getfield 49, 3) := by decide +kernel
theorem dX0_put_26 : decode cX0_put 26 = .ok (.iload_n 1, 1) := by decide +kernel
theorem dX0_put_27 : decode cX0_put 27 = .ok (.iastore, 1) := by decide +kernel
theorem dX0_put_28 : decode cX0_put 28 = .ok (.aload_n 0, 1) := by decide +kernel
theorem dX0_put_29 : decode cX0_put 29 = .ok (.dup, 1) := by decide +kernel
theorem dX0_put_30 : decode cX0_put 30 = .ok (.getfield 49, 3) := by decide +kernel
theorem dX0_put_33 : decode cX0_put 33 = .ok (.iconst 1, 1) := by decide +kernel
theorem dX0_put_34 : decode cX0_put 34 = .ok (.iadd, 1) := by decide +kernel
theorem dX0_put_35 : decode cX0_put 35 = .ok (.putfield 49, 3) := by decide +kernel
theorem dX0_put_38 : decode cX0_put 38 = .ok (.aload_n 0, 1) := by decide +kernel
theorem dX0_put_39 : decode cX0_put 39 = .ok (.getfield 36, 3) := by decide +kernel
theorem dX0_put_42 : decode cX0_put 42 = .ok (.aload_n 0, 1) := by decide +kernel
theorem dX0_put_43 : decode cX0_put 43 = .ok (.getfield 45, 3) := by decide +kernel
theorem dX0_put_46 : decode cX0_put 46 = .ok (.iconst 1, 1) := by decide +kernel
theorem dX0_put_47 : decode cX0_put 47 = .ok (.isub, 1) := by decide +kernel
theorem dX0_put_48 : decode cX0_put 48 = .ok (.dup2, 1) := by decide +kernel
theorem dX0_put_49 : decode cX0_put 49 = .ok (.iaload, 1) := by decide +kernel
theorem dX0_put_50 : decode cX0_put 50 = .ok (.iconst 1, 1) := by decide +kernel
theorem dX0_put_51 : decode cX0_put 51 = .ok (.iadd, 1) := by decide +kernel
theorem dX0_put_52 : decode cX0_put 52 = .ok (.iastore, 1) := by decide +kernel
theorem dX0_put_53 : decode cX0_put 53 = .ok (.return_, 1) := by decide +kernel
set_option maxHeartbeats 4000000 in
set_option maxRecDepth 10000 in
theorem vX0_put_0 {l : Launch} {M : sl_M} {Q : sl_R} {o0 : Nat} {x1 : Int} (ho0 : sl_cls o0 = 0) (H : sl_RM M → sl_rg x1 → ((M o0 0 11 = 0) → Q none M) ∧ ((¬ (M o0 0 11 = 0)) → ((M o0 0 12 < 160) → (0 ≤ M o0 0 12 ∧ M o0 0 12 < 160) ∧ (∀ M4, M4 = sl_wr M o0 11 (M o0 0 12) x1 → (sl_rg (M4 o0 0 12 + 1)) ∧ (∀ M6, M6 = sl_wr M4 o0 0 12 (M4 o0 0 12 + 1) → (0 ≤ M6 o0 0 11 - 1 ∧ M6 o0 0 11 - 1 < 40) ∧ (sl_rg (M6 o0 9 (M6 o0 0 11 - 1) + 1)) ∧ (∀ M9, M9 = sl_wr M6 o0 9 (M6 o0 0 11 - 1) (M6 o0 9 (M6 o0 0 11 - 1) + 1) → Q none M9)))) ∧ ((¬ (M o0 0 12 < 160)) → Q none M))) : sl_At l mX0_put 0 [(0, vR o0 0), (1, vI x1)] [] M Q := by
  refine sl_At.in (fun hM hls => ?_)
  have g1 : sl_rg x1 := hls _ (List.mem_of_getElem? (i := 1) rfl)
  have H := H hM g1
  refine r_aload_n (k := 0) rfl rfl dX0_put_0 ?_
  refine r_gI (k := 11) (kz := 11) rfl ckX0 ho0 rfl (by decide) rfl rfl fl_X0_45 dX0_put_1 ?_
  refine r_if_eq (tgt := 17) (hM _ _ _) dX0_put_4 (by decide) (fun h1 => ?_) (fun h1 => ?_)
  · have H := H.1 h1
    refine r_vret rfl dX0_put_17 ?_
    exact H
  · have H := H.2 h1
    refine r_aload_n (k := 0) rfl rfl dX0_put_7 ?_
    refine r_gI (k := 12) (kz := 12) rfl ckX0 ho0 rfl (by decide) rfl rfl fl_X0_49 dX0_put_8 ?_
    refine r_sipush dX0_put_11 (by decide) ?_
    refine r_icmp_lt (tgt := 18) (hM _ _ _) ⟨by decide, by decide⟩ dX0_put_14 (by decide) (fun h2 => ?_) (fun h2 => ?_)
    · have H := H.1 h2
      refine r_aload_n (k := 0) rfl rfl dX0_put_18 ?_
      refine r_getR (k := 10) (o' := o0) (i' := 11) ckX0 ho0 rfl (by decide) rfl rfl rfl fl_X0_42 dX0_put_19 ?_
      refine r_aload_n (k := 0) rfl rfl dX0_put_22 ?_
      refine r_gI (k := 12) (kz := 12) rfl ckX0 ho0 rfl (by decide) rfl rfl fl_X0_49 dX0_put_23 ?_
      refine r_iload_n (k := 1) rfl rfl dX0_put_26 ?_
      obtain ⟨c3, H⟩ := H
      refine r_iast ho0 rfl rfl c3 g1 dX0_put_27 ?_
      refine r_mm (fun M4 e4 => ?_)
      have H := H M4 e4
      have hM4 : sl_RM M4 := by rw [e4]; exact sl_wr_RM hM g1
      refine r_aload_n (k := 0) rfl rfl dX0_put_28 ?_
      refine r_dup rfl dX0_put_29 ?_
      refine r_gI (k := 12) (kz := 12) rfl ckX0 ho0 rfl (by decide) rfl rfl fl_X0_49 dX0_put_30 ?_
      refine r_iconst dX0_put_33 ?_
      refine r_iadd dX0_put_34 ?_
      obtain ⟨c5, H⟩ := H
      refine r_pI (k := 12) (kz := 12) rfl ckX0 ho0 rfl (by decide) rfl rfl rfl rfl fl_X0_49 c5 dX0_put_35 ?_
      refine r_mm (fun M6 e6 => ?_)
      have H := H M6 e6
      have hM6 : sl_RM M6 := by rw [e6]; exact sl_wr_RM hM4 c5
      refine r_aload_n (k := 0) rfl rfl dX0_put_38 ?_
      refine r_getR (k := 8) (o' := o0) (i' := 9) ckX0 ho0 rfl (by decide) rfl rfl rfl fl_X0_36 dX0_put_39 ?_
      refine r_aload_n (k := 0) rfl rfl dX0_put_42 ?_
      refine r_gI (k := 11) (kz := 11) rfl ckX0 ho0 rfl (by decide) rfl rfl fl_X0_45 dX0_put_43 ?_
      refine r_iconst dX0_put_46 ?_
      refine r_isub dX0_put_47 ?_
      refine r_dup2 rfl rfl dX0_put_48 ?_
      obtain ⟨c7, H⟩ := H
      refine r_iald ho0 rfl rfl c7 dX0_put_49 ?_
      refine r_iconst dX0_put_50 ?_
      refine r_iadd dX0_put_51 ?_
      obtain ⟨c8, H⟩ := H
      refine r_iast ho0 rfl rfl c7 c8 dX0_put_52 ?_
      refine r_mm (fun M9 e9 => ?_)
      have H := H M9 e9
      have hM9 : sl_RM M9 := by rw [e9]; exact sl_wr_RM hM6 c8
      refine r_vret rfl dX0_put_53 ?_
      exact H
    · have H := H.2 h2
      refine r_vret rfl dX0_put_17 ?_
      exact H
theorem eX0_put {l : Launch} {M : sl_M} {Q : sl_R} {o0 : Nat} {x1 : Int} (k : sl_At l mX0_put 0 [(0, vR o0 0), (1, vI x1)] [] M Q) : sl_Runs l mX0_put [vR o0 0, vI x1] M Q := sl_Runs.of (ls := [(0, vR o0 0), (1, vI x1)]) rfl rfl (fun _ => rfl) (fun _ => Nat.le_of_ble_eq_true rfl) rfl (k)
theorem dX0_addLike_0 : decode cX0_addLike 0 = .ok (.aload_n 0, 1) := by decide +kernel
theorem dX0_addLike_1 : decode cX0_addLike 1 = .ok (.aload_n 1, 1) := by decide +kernel
theorem dX0_addLike_2 : decode cX0_addLike 2 = .ok (.getfield 9, 3) := by decide +kernel
theorem dX0_addLike_5 : decode cX0_addLike 5 = .ok (.iload_n 2, 1) := by decide +kernel
theorem dX0_addLike_6 : decode cX0_addLike 6 = .ok (.iaload, 1) := by decide +kernel
theorem dX0_addLike_7 : decode cX0_addLike 7 = .ok (.iload_n 3, 1) := by decide +kernel
theorem dX0_addLike_8 : decode cX0_addLike 8 = .ok (.iload 4, 2) := by decide +kernel
theorem dX0_addLike_10 : decode cX0_addLike 10 = .ok (.invokevirtual 53, 3) := by decide +kernel
theorem dX0_addLike_13 : decode cX0_addLike 13 = .ok (.istore 6, 2) := by decide +kernel
theorem dX0_addLike_15 : decode cX0_addLike 15 = .ok (.iload 6, 2) := by decide +kernel
theorem dX0_addLike_17 : decode cX0_addLike 17 = .ok (.iconst (-1), 1) := by decide +kernel
theorem dX0_addLike_18 : decode cX0_addLike 18 = .ok (.if_icmp .ne 5, 3) := by decide +kernel
theorem dX0_addLike_21 : decode cX0_addLike 21 = .ok (.iconst (-1), 1) := by decide +kernel
theorem dX0_addLike_22 : decode cX0_addLike 22 = .ok (.ireturn, 1) := by decide +kernel
theorem dX0_addLike_23 : decode cX0_addLike 23 = .ok (.aload_n 0, 1) := by decide +kernel
theorem dX0_addLike_24 : decode cX0_addLike 24 = .ok (.getfield 24, 3) := by decide +kernel
theorem dX0_addLike_27 : decode cX0_addLike 27 = .ok (.iload 6, 2) := by decide +kernel
theorem dX0_addLike_29 : decode cX0_addLike 29 = .ok (.aload_n 1, 1) := by decide +kernel
theorem dX0_addLike_30 : decode cX0_addLike 30 = .ok (.getfield 24, 3) := by decide +kernel
theorem dX0_addLike_33 : decode cX0_addLike 33 = .ok (.iload_n 2, 1) := by decide +kernel
theorem dX0_addLike_34 : decode cX0_addLike 34 = .ok (.iaload, 1) := by decide +kernel
theorem dX0_addLike_35 : decode cX0_addLike 35 = .ok (.iastore, 1) := by decide +kernel
theorem dX0_addLike_36 : decode cX0_addLike 36 = .ok (.aload_n 0, 1) := by decide +kernel
theorem dX0_addLike_37 : decode cX0_addLike 37 = .ok (.getfield 27, 3) := by decide +kernel
theorem dX0_addLike_40 : decode cX0_addLike 40 = .ok (.iload 6, 2) := by decide +kernel
theorem dX0_addLike_42 : decode cX0_addLike 42 = .ok (.aload_n 1, 1) := by decide +kernel
theorem dX0_addLike_43 : decode cX0_addLike 43 = .ok (.getfield 9, 3) := by decide +kernel
theorem dX0_addLike_46 : decode cX0_addLike 46 = .ok (.iload_n 2, 1) := by decide +kernel
theorem dX0_addLike_47 : decode cX0_addLike 47 = .ok (.iaload, 1) := by decide +kernel
theorem dX0_addLike_48 : decode cX0_addLike 48 = .ok (.ifCond .ne 17, 3) := by decide +kernel
theorem dX0_addLike_51 : decode cX0_addLike 51 = .ok (.iload 5, 2) := by decide +kernel
theorem dX0_addLike_53 : decode cX0_addLike 53 = .ok (.aload_n 1, 1) := by decide +kernel
theorem dX0_addLike_54 : decode cX0_addLike 54 = .ok (.getfield 27, 3) := by decide +kernel
theorem dX0_addLike_57 : decode cX0_addLike 57 = .ok (.iload_n 2, 1) := by decide +kernel
theorem dX0_addLike_58 : decode cX0_addLike 58 = .ok (.iaload, 1) := by decide +kernel
theorem dX0_addLike_59 : decode cX0_addLike 59 = .ok (.invokestatic 57, 3) := by decide +kernel
theorem dX0_addLike_62 : decode cX0_addLike 62 = .ok (.goto 9, 3) := by decide +kernel
theorem dX0_addLike_65 : decode cX0_addLike 65 = .ok (.aload_n 1, 1) := by decide +kernel
theorem dX0_addLike_66 : decode cX0_addLike 66 = .ok (.getfield 27, 3) := by decide +kernel
theorem dX0_addLike_69 : decode cX0_addLike 69 = .ok (.iload_n 2, 1) := by decide +kernel
theorem dX0_addLike_70 : decode cX0_addLike 70 = .ok (.iaload, 1) := by decide +kernel
theorem dX0_addLike_71 : decode cX0_addLike 71 = .ok (.iastore, 1) := by decide +kernel
theorem dX0_addLike_72 : decode cX0_addLike 72 = .ok (.aload_n 0, 1) := by decide +kernel
theorem dX0_addLike_73 : decode cX0_addLike 73 = .ok (.getfield 30, 3) := by decide +kernel
theorem dX0_addLike_76 : decode cX0_addLike 76 = .ok (.iload 6, 2) := by decide +kernel
theorem dX0_addLike_78 : decode cX0_addLike 78 = .ok (.aload_n 1, 1) := by decide +kernel
theorem dX0_addLike_79 : decode cX0_addLike 79 = .ok (.getfield 30, 3) := by decide +kernel
theorem dX0_addLike_82 : decode cX0_addLike 82 = .ok (.iload_n 2, 1) := by decide +kernel
theorem dX0_addLike_83 : decode cX0_addLike 83 = .ok (.iaload, 1) := by decide +kernel
theorem dX0_addLike_84 : decode cX0_addLike 84 = .ok (.iastore, 1) := by decide +kernel
theorem dX0_addLike_85 : decode cX0_addLike 85 = .ok (.iconst 0, 1) := by decide +kernel
theorem dX0_addLike_86 : decode cX0_addLike 86 = .ok (.istore 7, 2) := by decide +kernel
theorem dX0_addLike_88 : decode cX0_addLike 88 = .ok (.iload 7, 2) := by decide +kernel
theorem dX0_addLike_90 : decode cX0_addLike 90 = .ok (.aload_n 1, 1) := by decide +kernel
theorem dX0_addLike_91 : decode cX0_addLike 91 = .ok (.getfield 36, 3) := by decide +kernel
theorem dX0_addLike_94 : decode cX0_addLike 94 = .ok (.iload_n 2, 1) := by decide +kernel
theorem dX0_addLike_95 : decode cX0_addLike 95 = .ok (.iaload, 1) := by decide +kernel
theorem dX0_addLike_96 : decode cX0_addLike 96 = .ok (.if_icmp .ge 57, 3) := by decide +kernel
theorem dX0_addLike_99 : decode cX0_addLike 99 = .ok (.aload_n 1, 1) := by decide +kernel
theorem dX0_addLike_100 : decode cX0_addLike 100 = .ok (.getfield 42, 3) := by decide +kernel
theorem dX0_addLike_103 : decode cX0_addLike 103 = .ok (.aload_n 1, 1) := by decide +kernel
theorem dX0_addLike_104 : decode cX0_addLike 104 = .ok (.getfield 33, 3) := by decide +kernel
theorem dX0_addLike_107 : decode cX0_addLike 107 = .ok (.iload_n 2, 1) := by decide +kernel
theorem dX0_addLike_108 : decode cX0_addLike 108 = .ok (.iaload, 1) := by decide +kernel
theorem dX0_addLike_109 : decode cX0_addLike 109 = .ok (.iload 7, 2) := by decide +kernel
theorem dX0_addLike_111 : decode cX0_addLike 111 = .ok (.iadd, 1) := by decide +kernel
theorem dX0_addLike_112 : decode cX0_addLike 112 = .ok (.iaload, 1) := by decide +kernel
theorem dX0_addLike_113 : decode cX0_addLike 113 = .ok (.istore 8, 2) := by decide +kernel
theorem dX0_addLike_115 : decode cX0_addLike 115 = .ok (.iload 8, 2) := by decide +kernel
theorem dX0_addLike_117 : decode cX0_addLike 117 = .ok (.invokestatic 61, 3) := by decide +kernel
theorem dX0_addLike_120 : decode cX0_addLike 120 = .ok (.istore 9, 2) := by decide +kernel
theorem dX0_addLike_122 : decode cX0_addLike 122 = .ok (.aload_n 0, 1) := by decide +kernel
theorem dX0_addLike_123 : decode cX0_addLike 123 = .ok (.iload 9, 2) := by decide +kernel
theorem dX0_addLike_125 : decode cX0_addLike 125 = .ok (.iconst (-1), 1) := by decide +kernel
theorem dX0_addLike_126 : decode cX0_addLike 126 = .ok (.if_icmp .ne 8, 3) := by decide +kernel
theorem dX0_addLike_129 : decode cX0_addLike 129 = .ok (.iload 8, 2) := by decide +kernel
theorem dX0_addLike_131 : decode cX0_addLike 131 = .ok (.goto 13, 3) := by decide +kernel
theorem dX0_addLike_134 : decode cX0_addLike 134 = .ok (.bipush 97, 2) := by decide +kernel
theorem dX0_addLike_136 : decode cX0_addLike 136 = .ok (.iload 5, 2) := by decide +kernel
theorem dX0_addLike_138 : decode cX0_addLike 138 = .ok (.iload 9, 2) := by decide +kernel
theorem dX0_addLike_140 : decode cX0_addLike 140 = .ok (.invokestatic 57, 3) := by decide +kernel
theorem dX0_addLike_143 : decode cX0_addLike 143 = .ok (.iadd, 1) := by decide +kernel
theorem dX0_addLike_144 : decode cX0_addLike 144 = .ok (.invokevirtual 65, 3) := by decide +kernel
theorem dX0_addLike_147 : decode cX0_addLike 147 = .ok (.iinc 7 1, 3) := by decide +kernel
theorem dX0_addLike_150 : decode cX0_addLike 150 = .ok (.goto (-62), 3) := by decide +kernel
theorem dX0_addLike_153 : decode cX0_addLike 153 = .ok (.aload_n 0, 1) := by decide +kernel
theorem dX0_addLike_154 : decode cX0_addLike 154 = .ok (.getfield 39, 3) := by decide +kernel
theorem dX0_addLike_157 : decode cX0_addLike 157 = .ok (.iload 6, 2) := by decide +kernel
theorem dX0_addLike_159 : decode cX0_addLike 159 = .ok (.iload 5, 2) := by decide +kernel
theorem dX0_addLike_161 : decode cX0_addLike 161 = .ok (.aload_n 1, 1) := by decide +kernel
theorem dX0_addLike_162 : decode cX0_addLike 162 = .ok (.getfield 39, 3) := by decide +kernel
theorem dX0_addLike_165 : decode cX0_addLike 165 = .ok (.iload_n 2, 1) := by decide +kernel
theorem dX0_addLike_166 : decode cX0_addLike 166 = .ok (.iaload, 1) := by decide +kernel
theorem dX0_addLike_167 : decode cX0_addLike 167 = .ok (.invokestatic 69, 3) := by decide +kernel
theorem dX0_addLike_170 : decode cX0_addLike 170 = .ok (.iastore, 1) := by decide +kernel
theorem dX0_addLike_171 : decode cX0_addLike 171 = .ok (.iload 6, 2) := by decide +kernel
theorem dX0_addLike_173 : decode cX0_addLike 173 = .ok (.ireturn, 1) := by decide +kernel
set_option maxHeartbeats 4000000 in
set_option maxRecDepth 10000 in
theorem vX0_addLike_0 {l : Launch} {M : sl_M} {Q : sl_R} {o0 o1 : Nat} {x2 x3 x4 x5 : Int} (ho0 : sl_cls o0 = 0) (ho1 : sl_cls o1 = 0) (H : sl_RM M → sl_rg x2 → sl_rg x3 → sl_rg x4 → sl_rg x5 → (0 ≤ x2 ∧ x2 < 40) ∧ sl_RI l mX0_add [vR o0 0, vI (M o1 1 x2), vI x3, vI x4] M (fun y3 M2 => ((y3 ≠ (-1)) → (0 ≤ y3 ∧ y3 < 40) ∧ (∀ M6, M6 = sl_wr M2 o0 5 y3 (M2 o1 5 x2) → ((M6 o1 1 x2 ≠ 0) → (∀ M8, M8 = sl_wr M6 o0 6 y3 (M6 o1 6 x2) → (∀ M9, M9 = sl_wr M8 o0 7 y3 (M8 o1 7 x2) → sl_At l mX0_addLike 88 [(0, vR o0 0), (1, vR o1 0), (2, vI x2), (5, vI x5), (6, vI y3), (7, vI 0)] [] M9 Q))) ∧ ((¬ (M6 o1 1 x2 ≠ 0)) → (∀ M10, M10 = sl_wr M6 o0 6 y3 (iand (ishr x5 (3 * (M6 o1 6 x2))) 7) → (∀ M11, M11 = sl_wr M10 o0 7 y3 (M10 o1 7 x2) → sl_At l mX0_addLike 88 [(0, vR o0 0), (1, vR o1 0), (2, vI x2), (5, vI x5), (6, vI y3), (7, vI 0)] [] M11 Q))))) ∧ ((¬ (y3 ≠ (-1))) → Q (some (vI (-1))) M2))) : sl_At l mX0_addLike 0 [(0, vR o0 0), (1, vR o1 0), (2, vI x2), (3, vI x3), (4, vI x4), (5, vI x5)] [] M Q := by
  refine sl_At.in (fun hM hls => ?_)
  have g2 : sl_rg x2 := hls _ (List.mem_of_getElem? (i := 2) rfl)
  have g3 : sl_rg x3 := hls _ (List.mem_of_getElem? (i := 3) rfl)
  have g4 : sl_rg x4 := hls _ (List.mem_of_getElem? (i := 4) rfl)
  have g5 : sl_rg x5 := hls _ (List.mem_of_getElem? (i := 5) rfl)
  have H := H hM g2 g3 g4 g5
  refine r_aload_n (k := 0) rfl rfl dX0_addLike_0 ?_
  refine r_aload_n (k := 1) rfl rfl dX0_addLike_1 ?_
  refine r_getR (k := 0) (o' := o1) (i' := 1) ckX0 ho1 rfl (by decide) rfl rfl rfl fl_X0_9 dX0_addLike_2 ?_
  refine r_iload_n (k := 2) rfl rfl dX0_addLike_5 ?_
  obtain ⟨c1, H⟩ := H
  refine r_iald ho1 rfl rfl c1 dX0_addLike_6 ?_
  refine r_iload_n (k := 3) rfl rfl dX0_addLike_7 ?_
  refine r_iload (k := 4) rfl dX0_addLike_8 ?_
  refine r_callV (g := mX0_add) ckX0 ho0 rfl rfl rfl mkX0_add mvX0_add ml_X0_53 ⟨by decide, by decide⟩ rfl (Nat.le_of_ble_eq_true rfl) rfl (ok_i (hM _ _ _) (ok_i g3 (ok_i g4 ok_n))) dX0_addLike_10 (sl_afterI (sl_RI.mono (fun y3 M2 gy3 hM2 H => ?_) H))
  refine r_istore (ls' := [(6, vI y3), (0, vR o0 0), (1, vR o1 0), (2, vI x2), (3, vI x3), (4, vI x4), (5, vI x5)]) gy3 (by decide) rfl dX0_addLike_13 ?_
  refine r_iload (k := 0) rfl dX0_addLike_15 ?_
  refine r_iconst dX0_addLike_17 ?_
  refine r_icmp_ne (tgt := 23) gy3 ⟨by decide, by decide⟩ dX0_addLike_18 (by decide) (fun h4 => ?_) (fun h4 => ?_)
  · have H := H.1 h4
    refine r_aload_n (k := 1) rfl rfl dX0_addLike_23 ?_
    refine r_getR (k := 4) (o' := o0) (i' := 5) ckX0 ho0 rfl (by decide) rfl rfl rfl fl_X0_24 dX0_addLike_24 ?_
    refine r_iload (k := 0) rfl dX0_addLike_27 ?_
    refine r_aload_n (k := 2) rfl rfl dX0_addLike_29 ?_
    refine r_getR (k := 4) (o' := o1) (i' := 5) ckX0 ho1 rfl (by decide) rfl rfl rfl fl_X0_24 dX0_addLike_30 ?_
    refine r_iload_n (k := 3) rfl rfl dX0_addLike_33 ?_
    refine r_iald ho1 rfl rfl c1 dX0_addLike_34 ?_
    obtain ⟨c5, H⟩ := H
    refine r_iast ho0 rfl rfl c5 (hM2 _ _ _) dX0_addLike_35 ?_
    refine r_mm (fun M6 e6 => ?_)
    have H := H M6 e6
    have hM6 : sl_RM M6 := by rw [e6]; exact sl_wr_RM hM2 (hM2 _ _ _)
    refine r_aload_n (k := 1) rfl rfl dX0_addLike_36 ?_
    refine r_getR (k := 5) (o' := o0) (i' := 6) ckX0 ho0 rfl (by decide) rfl rfl rfl fl_X0_27 dX0_addLike_37 ?_
    refine r_iload (k := 0) rfl dX0_addLike_40 ?_
    refine r_aload_n (k := 2) rfl rfl dX0_addLike_42 ?_
    refine r_getR (k := 0) (o' := o1) (i' := 1) ckX0 ho1 rfl (by decide) rfl rfl rfl fl_X0_9 dX0_addLike_43 ?_
    refine r_iload_n (k := 3) rfl rfl dX0_addLike_46 ?_
    refine r_iald ho1 rfl rfl c1 dX0_addLike_47 ?_
    refine r_if_ne (tgt := 65) (hM6 _ _ _) dX0_addLike_48 (by decide) (fun h7 => ?_) (fun h7 => ?_)
    · have H := H.1 h7
      refine r_aload_n (k := 2) rfl rfl dX0_addLike_65 ?_
      refine r_getR (k := 5) (o' := o1) (i' := 6) ckX0 ho1 rfl (by decide) rfl rfl rfl fl_X0_27 dX0_addLike_66 ?_
      refine r_iload_n (k := 3) rfl rfl dX0_addLike_69 ?_
      refine r_iald ho1 rfl rfl c1 dX0_addLike_70 ?_
      refine r_iast ho0 rfl rfl c5 (hM6 _ _ _) dX0_addLike_71 ?_
      refine r_mm (fun M8 e8 => ?_)
      have H := H M8 e8
      have hM8 : sl_RM M8 := by rw [e8]; exact sl_wr_RM hM6 (hM6 _ _ _)
      refine r_aload_n (k := 1) rfl rfl dX0_addLike_72 ?_
      refine r_getR (k := 6) (o' := o0) (i' := 7) ckX0 ho0 rfl (by decide) rfl rfl rfl fl_X0_30 dX0_addLike_73 ?_
      refine r_iload (k := 0) rfl dX0_addLike_76 ?_
      refine r_aload_n (k := 2) rfl rfl dX0_addLike_78 ?_
      refine r_getR (k := 6) (o' := o1) (i' := 7) ckX0 ho1 rfl (by decide) rfl rfl rfl fl_X0_30 dX0_addLike_79 ?_
      refine r_iload_n (k := 3) rfl rfl dX0_addLike_82 ?_
      refine r_iald ho1 rfl rfl c1 dX0_addLike_83 ?_
      refine r_iast ho0 rfl rfl c5 (hM8 _ _ _) dX0_addLike_84 ?_
      refine r_mm (fun M9 e9 => ?_)
      have H := H M9 e9
      have hM9 : sl_RM M9 := by rw [e9]; exact sl_wr_RM hM8 (hM8 _ _ _)
      refine r_iconst dX0_addLike_85 ?_
      refine r_istore (ls' := [(7, vI 0), (6, vI y3), (0, vR o0 0), (1, vR o1 0), (2, vI x2), (3, vI x3), (4, vI x4), (5, vI x5)]) ⟨by decide, by decide⟩ (by decide) rfl dX0_addLike_86 ?_
      exact sl_At.sub [2, 3, 4, 7, 1, 0] rfl H
    · have H := H.2 h7
      refine r_iload (k := 6) rfl dX0_addLike_51 ?_
      refine r_aload_n (k := 2) rfl rfl dX0_addLike_53 ?_
      refine r_getR (k := 5) (o' := o1) (i' := 6) ckX0 ho1 rfl (by decide) rfl rfl rfl fl_X0_27 dX0_addLike_54 ?_
      refine r_iload_n (k := 3) rfl rfl dX0_addLike_57 ?_
      refine r_iald ho1 rfl rfl c1 dX0_addLike_58 ?_
      refine r_callSN (g := mX9_renamed) rfl mkX9_renamed msX9_renamed mn_X0_57 ⟨by decide, by decide⟩ rfl (Nat.le_of_ble_eq_true rfl) rfl (ok_i g5 (ok_i (hM6 _ _ _) ok_n)) dX0_addLike_59 (sl_afterI (sl_RI.by kX9_renamed ?_))
      refine r_goto (tgt := 71) dX0_addLike_62 (by decide) ?_
      refine r_iast ho0 rfl rfl c5 (rgkX9_renamed _ _) dX0_addLike_71 ?_
      refine r_mm (fun M10 e10 => ?_)
      have H := H M10 e10
      have hM10 : sl_RM M10 := by rw [e10]; exact sl_wr_RM hM6 (rgkX9_renamed _ _)
      refine r_aload_n (k := 1) rfl rfl dX0_addLike_72 ?_
      refine r_getR (k := 6) (o' := o0) (i' := 7) ckX0 ho0 rfl (by decide) rfl rfl rfl fl_X0_30 dX0_addLike_73 ?_
      refine r_iload (k := 0) rfl dX0_addLike_76 ?_
      refine r_aload_n (k := 2) rfl rfl dX0_addLike_78 ?_
      refine r_getR (k := 6) (o' := o1) (i' := 7) ckX0 ho1 rfl (by decide) rfl rfl rfl fl_X0_30 dX0_addLike_79 ?_
      refine r_iload_n (k := 3) rfl rfl dX0_addLike_82 ?_
      refine r_iald ho1 rfl rfl c1 dX0_addLike_83 ?_
      refine r_iast ho0 rfl rfl c5 (hM10 _ _ _) dX0_addLike_84 ?_
      refine r_mm (fun M11 e11 => ?_)
      have H := H M11 e11
      have hM11 : sl_RM M11 := by rw [e11]; exact sl_wr_RM hM10 (hM10 _ _ _)
      refine r_iconst dX0_addLike_85 ?_
      refine r_istore (ls' := [(7, vI 0), (6, vI y3), (0, vR o0 0), (1, vR o1 0), (2, vI x2), (3, vI x3), (4, vI x4), (5, vI x5)]) ⟨by decide, by decide⟩ (by decide) rfl dX0_addLike_86 ?_
      exact sl_At.sub [2, 3, 4, 7, 1, 0] rfl H
  · have H := H.2 h4
    refine r_iconst dX0_addLike_21 ?_
    refine r_iret rfl ⟨by decide, by decide⟩ dX0_addLike_22 ?_
    exact H
set_option maxHeartbeats 4000000 in
set_option maxRecDepth 10000 in
theorem vX0_addLike_88 {l : Launch} {M : sl_M} {Q : sl_R} {o0 o1 : Nat} {x2 x5 x6 x7 : Int} (ho0 : sl_cls o0 = 0) (ho1 : sl_cls o1 = 0) (H : sl_RM M → sl_rg x2 → sl_rg x5 → sl_rg x6 → sl_rg x7 → (0 ≤ x2 ∧ x2 < 40) ∧ ((M o1 9 x2 ≤ x7) → sl_RI l mX9_renamedSet [vI x5, vI (M o1 10 x2)] M (fun y4 M3 => (0 ≤ x6 ∧ x6 < 40) ∧ (∀ M6, M6 = sl_wr M3 o0 10 x6 y4 → Q (some (vI x6)) M6))) ∧ ((¬ (M o1 9 x2 ≤ x7)) → (0 ≤ M o1 8 x2 + x7 ∧ M o1 8 x2 + x7 < 160) ∧ (∀ y8 : Int, y8 = sp_var (M o1 11 (M o1 8 x2 + x7)) → ((y8 ≠ (-1)) → (sl_rg (97 + (iand (ishr x5 (3 * y8)) 7))) ∧ sl_RV l mX0_put [vR o0 0, vI (97 + (iand (ishr x5 (3 * y8)) 7))] M (fun M11 => (sl_rg (x7 + 1)) ∧ sl_At l mX0_addLike 88 [(0, vR o0 0), (1, vR o1 0), (2, vI x2), (5, vI x5), (6, vI x6), (7, vI (x7 + 1))] [] M11 Q)) ∧ ((¬ (y8 ≠ (-1))) → sl_RV l mX0_put [vR o0 0, vI (M o1 11 (M o1 8 x2 + x7))] M (fun M13 => (sl_rg (x7 + 1)) ∧ sl_At l mX0_addLike 88 [(0, vR o0 0), (1, vR o1 0), (2, vI x2), (5, vI x5), (6, vI x6), (7, vI (x7 + 1))] [] M13 Q))))) : sl_At l mX0_addLike 88 [(0, vR o0 0), (1, vR o1 0), (2, vI x2), (5, vI x5), (6, vI x6), (7, vI x7)] [] M Q := by
  refine sl_At.in (fun hM hls => ?_)
  have g2 : sl_rg x2 := hls _ (List.mem_of_getElem? (i := 2) rfl)
  have g5 : sl_rg x5 := hls _ (List.mem_of_getElem? (i := 3) rfl)
  have g6 : sl_rg x6 := hls _ (List.mem_of_getElem? (i := 4) rfl)
  have g7 : sl_rg x7 := hls _ (List.mem_of_getElem? (i := 5) rfl)
  have H := H hM g2 g5 g6 g7
  refine r_iload (k := 5) rfl dX0_addLike_88 ?_
  refine r_aload_n (k := 1) rfl rfl dX0_addLike_90 ?_
  refine r_getR (k := 8) (o' := o1) (i' := 9) ckX0 ho1 rfl (by decide) rfl rfl rfl fl_X0_36 dX0_addLike_91 ?_
  refine r_iload_n (k := 2) rfl rfl dX0_addLike_94 ?_
  obtain ⟨c1, H⟩ := H
  refine r_iald ho1 rfl rfl c1 dX0_addLike_95 ?_
  refine r_icmp_ge (tgt := 153) g7 (hM _ _ _) dX0_addLike_96 (by decide) (fun h2 => ?_) (fun h2 => ?_)
  · have H := H.1 h2
    refine r_aload_n (k := 0) rfl rfl dX0_addLike_153 ?_
    refine r_getR (k := 9) (o' := o0) (i' := 10) ckX0 ho0 rfl (by decide) rfl rfl rfl fl_X0_39 dX0_addLike_154 ?_
    refine r_iload (k := 4) rfl dX0_addLike_157 ?_
    refine r_iload (k := 3) rfl dX0_addLike_159 ?_
    refine r_aload_n (k := 1) rfl rfl dX0_addLike_161 ?_
    refine r_getR (k := 9) (o' := o1) (i' := 10) ckX0 ho1 rfl (by decide) rfl rfl rfl fl_X0_39 dX0_addLike_162 ?_
    refine r_iload_n (k := 2) rfl rfl dX0_addLike_165 ?_
    refine r_iald ho1 rfl rfl c1 dX0_addLike_166 ?_
    refine r_callSN (g := mX9_renamedSet) rfl mkX9_renamedSet msX9_renamedSet mn_X0_69 ⟨by decide, by decide⟩ rfl (Nat.le_of_ble_eq_true rfl) rfl (ok_i g5 (ok_i (hM _ _ _) ok_n)) dX0_addLike_167 (sl_afterI (sl_RI.mono (fun y4 M3 gy4 hM3 H => ?_) H))
    obtain ⟨c5, H⟩ := H
    refine r_iast ho0 rfl rfl c5 gy4 dX0_addLike_170 ?_
    refine r_mm (fun M6 e6 => ?_)
    have H := H M6 e6
    have hM6 : sl_RM M6 := by rw [e6]; exact sl_wr_RM hM3 gy4
    refine r_iload (k := 4) rfl dX0_addLike_171 ?_
    refine r_iret rfl g6 dX0_addLike_173 ?_
    exact H
  · have H := H.2 h2
    refine r_aload_n (k := 1) rfl rfl dX0_addLike_99 ?_
    refine r_getR (k := 10) (o' := o1) (i' := 11) ckX0 ho1 rfl (by decide) rfl rfl rfl fl_X0_42 dX0_addLike_100 ?_
    refine r_aload_n (k := 1) rfl rfl dX0_addLike_103 ?_
    refine r_getR (k := 7) (o' := o1) (i' := 8) ckX0 ho1 rfl (by decide) rfl rfl rfl fl_X0_33 dX0_addLike_104 ?_
    refine r_iload_n (k := 2) rfl rfl dX0_addLike_107 ?_
    refine r_iald ho1 rfl rfl c1 dX0_addLike_108 ?_
    refine r_iload (k := 5) rfl dX0_addLike_109 ?_
    refine r_iadd dX0_addLike_111 ?_
    obtain ⟨c7, H⟩ := H
    refine r_iald ho1 rfl rfl c7 dX0_addLike_112 ?_
    refine r_istore (ls' := [(8, vI (M o1 11 (M o1 8 x2 + x7))), (0, vR o0 0), (1, vR o1 0), (2, vI x2), (5, vI x5), (6, vI x6), (7, vI x7)]) (hM _ _ _) (by decide) rfl dX0_addLike_113 ?_
    refine r_iload (k := 0) rfl dX0_addLike_115 ?_
    refine r_callSN (g := mX9_variableOf) rfl mkX9_variableOf msX9_variableOf mn_X0_61 ⟨by decide, by decide⟩ rfl (Nat.le_of_ble_eq_true rfl) rfl (ok_i (hM _ _ _) ok_n) dX0_addLike_117 (sl_afterI (sl_RI.by kX9_variableOf ?_))
    refine r_nm (fun y8 fy8 => ?_)
    have H := H y8 fy8
    have gy8 : sl_rg y8 := by rw [fy8]; exact (rgkX9_variableOf _)
    refine r_istore (ls' := [(9, vI y8), (8, vI (M o1 11 (M o1 8 x2 + x7))), (0, vR o0 0), (1, vR o1 0), (2, vI x2), (5, vI x5), (6, vI x6), (7, vI x7)]) gy8 (by decide) rfl dX0_addLike_120 ?_
    refine r_aload_n (k := 2) rfl rfl dX0_addLike_122 ?_
    refine r_iload (k := 0) rfl dX0_addLike_123 ?_
    refine r_iconst dX0_addLike_125 ?_
    refine r_icmp_ne (tgt := 134) gy8 ⟨by decide, by decide⟩ dX0_addLike_126 (by decide) (fun h9 => ?_) (fun h9 => ?_)
    · have H := H.1 h9
      refine r_bipush dX0_addLike_134 (by decide) ?_
      refine r_iload (k := 5) rfl dX0_addLike_136 ?_
      refine r_iload (k := 0) rfl dX0_addLike_138 ?_
      refine r_callSN (g := mX9_renamed) rfl mkX9_renamed msX9_renamed mn_X0_57 ⟨by decide, by decide⟩ rfl (Nat.le_of_ble_eq_true rfl) rfl (ok_i g5 (ok_i gy8 ok_n)) dX0_addLike_140 (sl_afterI (sl_RI.by kX9_renamed ?_))
      refine r_iadd dX0_addLike_143 ?_
      obtain ⟨c10, H⟩ := H
      refine r_callV (g := mX0_put) ckX0 ho0 rfl rfl rfl mkX0_put mvX0_put ml_X0_65 ⟨by decide, by decide⟩ rfl (Nat.le_of_ble_eq_true rfl) rfl (ok_i c10 ok_n) dX0_addLike_144 (sl_afterV (sl_RV.mono (fun M11 hM11 H => ?_) H))
      obtain ⟨c12, H⟩ := H
      refine r_iinc (k := 7) (ls' := [(7, vI (x7 + 1)), (9, vI y8), (8, vI (M o1 11 (M o1 8 x2 + x7))), (0, vR o0 0), (1, vR o1 0), (2, vI x2), (5, vI x5), (6, vI x6)]) rfl c12 (by decide) rfl dX0_addLike_147 ?_
      refine r_goto (tgt := 88) dX0_addLike_150 (by decide) ?_
      exact sl_At.sub [3, 4, 5, 6, 7, 0] rfl H
    · have H := H.2 h9
      refine r_iload (k := 1) rfl dX0_addLike_129 ?_
      refine r_goto (tgt := 144) dX0_addLike_131 (by decide) ?_
      refine r_callV (g := mX0_put) ckX0 ho0 rfl rfl rfl mkX0_put mvX0_put ml_X0_65 ⟨by decide, by decide⟩ rfl (Nat.le_of_ble_eq_true rfl) rfl (ok_i (hM _ _ _) ok_n) dX0_addLike_144 (sl_afterV (sl_RV.mono (fun M13 hM13 H => ?_) H))
      obtain ⟨c14, H⟩ := H
      refine r_iinc (k := 7) (ls' := [(7, vI (x7 + 1)), (9, vI y8), (8, vI (M o1 11 (M o1 8 x2 + x7))), (0, vR o0 0), (1, vR o1 0), (2, vI x2), (5, vI x5), (6, vI x6)]) rfl c14 (by decide) rfl dX0_addLike_147 ?_
      refine r_goto (tgt := 88) dX0_addLike_150 (by decide) ?_
      exact sl_At.sub [3, 4, 5, 6, 7, 0] rfl H
theorem eX0_addLike {l : Launch} {M : sl_M} {Q : sl_R} {o0 o1 : Nat} {x2 x3 x4 x5 : Int} (k : sl_At l mX0_addLike 0 [(0, vR o0 0), (1, vR o1 0), (2, vI x2), (3, vI x3), (4, vI x4), (5, vI x5)] [] M Q) : sl_Runs l mX0_addLike [vR o0 0, vR o1 0, vI x2, vI x3, vI x4, vI x5] M Q := sl_Runs.of (ls := [(0, vR o0 0), (1, vR o1 0), (2, vI x2), (3, vI x3), (4, vI x4), (5, vI x5)]) rfl rfl (fun _ => rfl) (fun _ => Nat.le_of_ble_eq_true rfl) rfl (k)
theorem dX0_addRange_0 : decode cX0_addRange 0 = .ok (.aload_n 0, 1) := by decide +kernel
theorem dX0_addRange_1 : decode cX0_addRange 1 = .ok (.getfield 45, 3) := by decide +kernel
theorem dX0_addRange_4 : decode cX0_addRange 4 = .ok (.istore 7, 2) := by decide +kernel
theorem dX0_addRange_6 : decode cX0_addRange 6 = .ok (.iload_n 2, 1) := by decide +kernel
theorem dX0_addRange_7 : decode cX0_addRange 7 = .ok (.istore 8, 2) := by decide +kernel
theorem dX0_addRange_9 : decode cX0_addRange 9 = .ok (.iload 8, 2) := by decide +kernel
theorem dX0_addRange_11 : decode cX0_addRange 11 = .ok (.iload_n 3, 1) := by decide +kernel
theorem dX0_addRange_12 : decode cX0_addRange 12 = .ok (.if_icmp .gt 66, 3) := by decide +kernel
theorem dX0_addRange_15 : decode cX0_addRange 15 = .ok (.aload_n 1, 1) := by decide +kernel
theorem dX0_addRange_16 : decode cX0_addRange 16 = .ok (.getfield 15, 3) := by decide +kernel
theorem dX0_addRange_19 : decode cX0_addRange 19 = .ok (.iload 8, 2) := by decide +kernel
theorem dX0_addRange_21 : decode cX0_addRange 21 = .ok (.iaload, 1) := by decide +kernel
theorem dX0_addRange_22 : decode cX0_addRange 22 = .ok (.iload_n 2, 1) := by decide +kernel
theorem dX0_addRange_23 : decode cX0_addRange 23 = .ok (.if_icmp .ge 20, 3) := by decide +kernel
theorem dX0_addRange_26 : decode cX0_addRange 26 = .ok (.aload_n 0, 1) := by decide +kernel
theorem dX0_addRange_27 : decode cX0_addRange 27 = .ok (.aload_n 1, 1) := by decide +kernel
theorem dX0_addRange_28 : decode cX0_addRange 28 = .ok (.iload 8, 2) := by decide +kernel
theorem dX0_addRange_30 : decode cX0_addRange 30 = .ok (.iload 4, 2) := by decide +kernel
theorem dX0_addRange_32 : decode cX0_addRange 32 = .ok (.iload 5, 2) := by decide +kernel
theorem dX0_addRange_34 : decode cX0_addRange 34 = .ok (.iload 6, 2) := by decide +kernel
theorem dX0_addRange_36 : decode cX0_addRange 36 = .ok (.invokevirtual 72, 3) := by decide +kernel
theorem dX0_addRange_39 : decode cX0_addRange 39 = .ok (.pop, 1) := by decide +kernel
theorem dX0_addRange_40 : decode cX0_addRange 40 = .ok (.goto 32, 3) := by decide +kernel
theorem dX0_addRange_43 : decode cX0_addRange 43 = .ok (.aload_n 0, 1) := by decide +kernel
theorem dX0_addRange_44 : decode cX0_addRange 44 = .ok (.aload_n 1, 1) := by decide +kernel
theorem dX0_addRange_45 : decode cX0_addRange 45 = .ok (.iload 8, 2) := by decide +kernel
theorem dX0_addRange_47 : decode cX0_addRange 47 = .ok (.iload 7, 2) := by decide +kernel
theorem dX0_addRange_49 : decode cX0_addRange 49 = .ok (.aload_n 1, 1) := by decide +kernel
theorem dX0_addRange_50 : decode cX0_addRange 50 = .ok (.getfield 15, 3) := by decide +kernel
theorem dX0_addRange_53 : decode cX0_addRange 53 = .ok (.iload 8, 2) := by decide +kernel
theorem dX0_addRange_55 : decode cX0_addRange 55 = .ok (.iaload, 1) := by decide +kernel
theorem dX0_addRange_56 : decode cX0_addRange 56 = .ok (.iadd, 1) := by decide +kernel
theorem dX0_addRange_57 : decode cX0_addRange 57 = .ok (.iload_n 2, 1) := by decide +kernel
theorem dX0_addRange_58 : decode cX0_addRange 58 = .ok (.isub, 1) := by decide +kernel
theorem dX0_addRange_59 : decode cX0_addRange 59 = .ok (.aload_n 1, 1) := by decide +kernel
theorem dX0_addRange_60 : decode cX0_addRange 60 = .ok (.getfield 21, 3) := by decide +kernel
theorem dX0_addRange_63 : decode cX0_addRange 63 = .ok (.iload 8, 2) := by decide +kernel
theorem dX0_addRange_65 : decode cX0_addRange 65 = .ok (.iaload, 1) := by decide +kernel
theorem dX0_addRange_66 : decode cX0_addRange 66 = .ok (.iload 6, 2) := by decide +kernel
theorem dX0_addRange_68 : decode cX0_addRange 68 = .ok (.invokevirtual 72, 3) := by decide +kernel
theorem dX0_addRange_71 : decode cX0_addRange 71 = .ok (.pop, 1) := by decide +kernel
theorem dX0_addRange_72 : decode cX0_addRange 72 = .ok (.iinc 8 1, 3) := by decide +kernel
theorem dX0_addRange_75 : decode cX0_addRange 75 = .ok (.goto (-66), 3) := by decide +kernel
theorem dX0_addRange_78 : decode cX0_addRange 78 = .ok (.return_, 1) := by decide +kernel
set_option maxHeartbeats 4000000 in
set_option maxRecDepth 10000 in
theorem vX0_addRange_0 {l : Launch} {M : sl_M} {Q : sl_R} {o0 o1 : Nat} {x2 x3 x4 x5 x6 : Int} (ho0 : sl_cls o0 = 0) (ho1 : sl_cls o1 = 0) (H : sl_RM M → sl_rg x2 → sl_rg x3 → sl_rg x4 → sl_rg x5 → sl_rg x6 → sl_At l mX0_addRange 9 [(0, vR o0 0), (1, vR o1 0), (2, vI x2), (3, vI x3), (4, vI x4), (5, vI x5), (6, vI x6), (7, vI (M o0 0 11)), (8, vI x2)] [] M Q) : sl_At l mX0_addRange 0 [(0, vR o0 0), (1, vR o1 0), (2, vI x2), (3, vI x3), (4, vI x4), (5, vI x5), (6, vI x6)] [] M Q := by
  refine sl_At.in (fun hM hls => ?_)
  have g2 : sl_rg x2 := hls _ (List.mem_of_getElem? (i := 2) rfl)
  have g3 : sl_rg x3 := hls _ (List.mem_of_getElem? (i := 3) rfl)
  have g4 : sl_rg x4 := hls _ (List.mem_of_getElem? (i := 4) rfl)
  have g5 : sl_rg x5 := hls _ (List.mem_of_getElem? (i := 5) rfl)
  have g6 : sl_rg x6 := hls _ (List.mem_of_getElem? (i := 6) rfl)
  have H := H hM g2 g3 g4 g5 g6
  refine r_aload_n (k := 0) rfl rfl dX0_addRange_0 ?_
  refine r_gI (k := 11) (kz := 11) rfl ckX0 ho0 rfl (by decide) rfl rfl fl_X0_45 dX0_addRange_1 ?_
  refine r_istore (ls' := [(7, vI (M o0 0 11)), (0, vR o0 0), (1, vR o1 0), (2, vI x2), (3, vI x3), (4, vI x4), (5, vI x5), (6, vI x6)]) (hM _ _ _) (by decide) rfl dX0_addRange_4 ?_
  refine r_iload_n (k := 3) rfl rfl dX0_addRange_6 ?_
  refine r_istore (ls' := [(8, vI x2), (7, vI (M o0 0 11)), (0, vR o0 0), (1, vR o1 0), (2, vI x2), (3, vI x3), (4, vI x4), (5, vI x5), (6, vI x6)]) g2 (by decide) rfl dX0_addRange_7 ?_
  exact sl_At.sub [2, 3, 4, 5, 6, 7, 8, 1, 0] rfl H
set_option maxHeartbeats 4000000 in
set_option maxRecDepth 10000 in
theorem vX0_addRange_9 {l : Launch} {M : sl_M} {Q : sl_R} {o0 o1 : Nat} {x2 x3 x4 x5 x6 x7 x8 : Int} (ho0 : sl_cls o0 = 0) (ho1 : sl_cls o1 = 0) (H : sl_RM M → sl_rg x2 → sl_rg x3 → sl_rg x4 → sl_rg x5 → sl_rg x6 → sl_rg x7 → sl_rg x8 → ((x3 < x8) → Q none M) ∧ ((¬ (x3 < x8)) → (0 ≤ x8 ∧ x8 < 40) ∧ ((x2 ≤ M o1 2 x8) → (sl_rg (x7 + (M o1 2 x8) - x2)) ∧ sl_RI l mX0_addLike [vR o0 0, vR o1 0, vI x8, vI (x7 + (M o1 2 x8) - x2), vI (M o1 4 x8), vI x6] M (fun y6 M5 => (sl_rg (x8 + 1)) ∧ sl_At l mX0_addRange 9 [(0, vR o0 0), (1, vR o1 0), (2, vI x2), (3, vI x3), (4, vI x4), (5, vI x5), (6, vI x6), (7, vI x7), (8, vI (x8 + 1))] [] M5 Q)) ∧ ((¬ (x2 ≤ M o1 2 x8)) → sl_RI l mX0_addLike [vR o0 0, vR o1 0, vI x8, vI x4, vI x5, vI x6] M (fun y9 M8 => (sl_rg (x8 + 1)) ∧ sl_At l mX0_addRange 9 [(0, vR o0 0), (1, vR o1 0), (2, vI x2), (3, vI x3), (4, vI x4), (5, vI x5), (6, vI x6), (7, vI x7), (8, vI (x8 + 1))] [] M8 Q)))) : sl_At l mX0_addRange 9 [(0, vR o0 0), (1, vR o1 0), (2, vI x2), (3, vI x3), (4, vI x4), (5, vI x5), (6, vI x6), (7, vI x7), (8, vI x8)] [] M Q := by
  refine sl_At.in (fun hM hls => ?_)
  have g2 : sl_rg x2 := hls _ (List.mem_of_getElem? (i := 2) rfl)
  have g3 : sl_rg x3 := hls _ (List.mem_of_getElem? (i := 3) rfl)
  have g4 : sl_rg x4 := hls _ (List.mem_of_getElem? (i := 4) rfl)
  have g5 : sl_rg x5 := hls _ (List.mem_of_getElem? (i := 5) rfl)
  have g6 : sl_rg x6 := hls _ (List.mem_of_getElem? (i := 6) rfl)
  have g7 : sl_rg x7 := hls _ (List.mem_of_getElem? (i := 7) rfl)
  have g8 : sl_rg x8 := hls _ (List.mem_of_getElem? (i := 8) rfl)
  have H := H hM g2 g3 g4 g5 g6 g7 g8
  refine r_iload (k := 8) rfl dX0_addRange_9 ?_
  refine r_iload_n (k := 3) rfl rfl dX0_addRange_11 ?_
  refine r_icmp_gt (tgt := 78) g8 g3 dX0_addRange_12 (by decide) (fun h1 => ?_) (fun h1 => ?_)
  · have H := H.1 h1
    refine r_vret rfl dX0_addRange_78 ?_
    exact H
  · have H := H.2 h1
    refine r_aload_n (k := 1) rfl rfl dX0_addRange_15 ?_
    refine r_getR (k := 1) (o' := o1) (i' := 2) ckX0 ho1 rfl (by decide) rfl rfl rfl fl_X0_15 dX0_addRange_16 ?_
    refine r_iload (k := 8) rfl dX0_addRange_19 ?_
    obtain ⟨c2, H⟩ := H
    refine r_iald ho1 rfl rfl c2 dX0_addRange_21 ?_
    refine r_iload_n (k := 2) rfl rfl dX0_addRange_22 ?_
    refine r_icmp_ge (tgt := 43) (hM _ _ _) g2 dX0_addRange_23 (by decide) (fun h3 => ?_) (fun h3 => ?_)
    · have H := H.1 h3
      refine r_aload_n (k := 0) rfl rfl dX0_addRange_43 ?_
      refine r_aload_n (k := 1) rfl rfl dX0_addRange_44 ?_
      refine r_iload (k := 8) rfl dX0_addRange_45 ?_
      refine r_iload (k := 7) rfl dX0_addRange_47 ?_
      refine r_aload_n (k := 1) rfl rfl dX0_addRange_49 ?_
      refine r_getR (k := 1) (o' := o1) (i' := 2) ckX0 ho1 rfl (by decide) rfl rfl rfl fl_X0_15 dX0_addRange_50 ?_
      refine r_iload (k := 8) rfl dX0_addRange_53 ?_
      refine r_iald ho1 rfl rfl c2 dX0_addRange_55 ?_
      refine r_iadd dX0_addRange_56 ?_
      refine r_iload_n (k := 2) rfl rfl dX0_addRange_57 ?_
      refine r_isub dX0_addRange_58 ?_
      refine r_aload_n (k := 1) rfl rfl dX0_addRange_59 ?_
      refine r_getR (k := 3) (o' := o1) (i' := 4) ckX0 ho1 rfl (by decide) rfl rfl rfl fl_X0_21 dX0_addRange_60 ?_
      refine r_iload (k := 8) rfl dX0_addRange_63 ?_
      refine r_iald ho1 rfl rfl c2 dX0_addRange_65 ?_
      refine r_iload (k := 6) rfl dX0_addRange_66 ?_
      obtain ⟨c4, H⟩ := H
      refine r_callV (g := mX0_addLike) ckX0 ho0 rfl rfl rfl mkX0_addLike mvX0_addLike ml_X0_72 ⟨by decide, by decide⟩ rfl (Nat.le_of_ble_eq_true rfl) rfl (ok_r (ok_i g8 (ok_i c4 (ok_i (hM _ _ _) (ok_i g6 ok_n))))) dX0_addRange_68 (sl_afterI (sl_RI.mono (fun y6 M5 gy6 hM5 H => ?_) H))
      refine r_pop rfl dX0_addRange_71 ?_
      obtain ⟨c7, H⟩ := H
      refine r_iinc (k := 8) (ls' := [(8, vI (x8 + 1)), (0, vR o0 0), (1, vR o1 0), (2, vI x2), (3, vI x3), (4, vI x4), (5, vI x5), (6, vI x6), (7, vI x7)]) rfl c7 (by decide) rfl dX0_addRange_72 ?_
      refine r_goto (tgt := 9) dX0_addRange_75 (by decide) ?_
      exact sl_At.sub [1, 2, 3, 4, 5, 6, 7, 8, 0] rfl H
    · have H := H.2 h3
      refine r_aload_n (k := 0) rfl rfl dX0_addRange_26 ?_
      refine r_aload_n (k := 1) rfl rfl dX0_addRange_27 ?_
      refine r_iload (k := 8) rfl dX0_addRange_28 ?_
      refine r_iload (k := 4) rfl dX0_addRange_30 ?_
      refine r_iload (k := 5) rfl dX0_addRange_32 ?_
      refine r_iload (k := 6) rfl dX0_addRange_34 ?_
      refine r_callV (g := mX0_addLike) ckX0 ho0 rfl rfl rfl mkX0_addLike mvX0_addLike ml_X0_72 ⟨by decide, by decide⟩ rfl (Nat.le_of_ble_eq_true rfl) rfl (ok_r (ok_i g8 (ok_i g4 (ok_i g5 (ok_i g6 ok_n))))) dX0_addRange_36 (sl_afterI (sl_RI.mono (fun y9 M8 gy9 hM8 H => ?_) H))
      refine r_pop rfl dX0_addRange_39 ?_
      refine r_goto (tgt := 72) dX0_addRange_40 (by decide) ?_
      obtain ⟨c10, H⟩ := H
      refine r_iinc (k := 8) (ls' := [(8, vI (x8 + 1)), (0, vR o0 0), (1, vR o1 0), (2, vI x2), (3, vI x3), (4, vI x4), (5, vI x5), (6, vI x6), (7, vI x7)]) rfl c10 (by decide) rfl dX0_addRange_72 ?_
      refine r_goto (tgt := 9) dX0_addRange_75 (by decide) ?_
      exact sl_At.sub [1, 2, 3, 4, 5, 6, 7, 8, 0] rfl H
theorem eX0_addRange {l : Launch} {M : sl_M} {Q : sl_R} {o0 o1 : Nat} {x2 x3 x4 x5 x6 : Int} (k : sl_At l mX0_addRange 0 [(0, vR o0 0), (1, vR o1 0), (2, vI x2), (3, vI x3), (4, vI x4), (5, vI x5), (6, vI x6)] [] M Q) : sl_Runs l mX0_addRange [vR o0 0, vR o1 0, vI x2, vI x3, vI x4, vI x5, vI x6] M Q := sl_Runs.of (ls := [(0, vR o0 0), (1, vR o1 0), (2, vI x2), (3, vI x3), (4, vI x4), (5, vI x5), (6, vI x6)]) rfl rfl (fun _ => rfl) (fun _ => Nat.le_of_ble_eq_true rfl) rfl (k)
theorem dX0_copyFrom_0 : decode cX0_copyFrom 0 = .ok (.aload_n 0, 1) := by decide +kernel
theorem dX0_copyFrom_1 : decode cX0_copyFrom 1 = .ok (.invokevirtual 76, 3) := by decide +kernel
theorem dX0_copyFrom_4 : decode cX0_copyFrom 4 = .ok (.aload_n 0, 1) := by decide +kernel
theorem dX0_copyFrom_5 : decode cX0_copyFrom 5 = .ok (.aload_n 1, 1) := by decide +kernel
theorem dX0_copyFrom_6 : decode cX0_copyFrom 6 = .ok (.iconst 0, 1) := by decide +kernel
theorem dX0_copyFrom_7 : decode cX0_copyFrom 7 = .ok (.aload_n 1, 1) := by decide +kernel
theorem dX0_copyFrom_8 : decode cX0_copyFrom 8 = .ok (.getfield 45, 3) := by decide +kernel
theorem dX0_copyFrom_11 : decode cX0_copyFrom 11 = .ok (.iconst 1, 1) := by decide +kernel
theorem dX0_copyFrom_12 : decode cX0_copyFrom 12 = .ok (.isub, 1) := by decide +kernel
theorem dX0_copyFrom_13 : decode cX0_copyFrom 13 = .ok (.iconst (-1), 1) := by decide +kernel
theorem dX0_copyFrom_14 : decode cX0_copyFrom 14 = .ok (.iconst 0, 1) := by decide +kernel
theorem dX0_copyFrom_15 : decode cX0_copyFrom 15 = .ok (.ldc 52, 2) := by decide +kernel
theorem dX0_copyFrom_17 : decode cX0_copyFrom 17 = .ok (.invokevirtual 79, 3) := by decide +kernel
theorem dX0_copyFrom_20 : decode cX0_copyFrom 20 = .ok (.return_, 1) := by decide +kernel
set_option maxHeartbeats 4000000 in
set_option maxRecDepth 10000 in
theorem vX0_copyFrom_0 {l : Launch} {M : sl_M} {Q : sl_R} {o0 o1 : Nat} (ho0 : sl_cls o0 = 0) (ho1 : sl_cls o1 = 0) (H : sl_RM M → sl_RV l mX0_empty [vR o0 0] M (fun M1 => (sl_rg (M1 o1 0 11 - 1)) ∧ sl_RV l mX0_addRange [vR o0 0, vR o1 0, vI 0, vI (M1 o1 0 11 - 1), vI (-1), vI 0, vI 16434824] M1 (fun M3 => Q none M3))) : sl_At l mX0_copyFrom 0 [(0, vR o0 0), (1, vR o1 0)] [] M Q := by
  refine sl_At.in (fun hM hls => ?_)
  have H := H hM
  refine r_aload_n (k := 0) rfl rfl dX0_copyFrom_0 ?_
  refine r_callV (g := mX0_empty) ckX0 ho0 rfl rfl rfl mkX0_empty mvX0_empty ml_X0_76 ⟨by decide, by decide⟩ rfl (Nat.le_of_ble_eq_true rfl) rfl ok_n dX0_copyFrom_1 (sl_afterV (sl_RV.mono (fun M1 hM1 H => ?_) H))
  refine r_aload_n (k := 0) rfl rfl dX0_copyFrom_4 ?_
  refine r_aload_n (k := 1) rfl rfl dX0_copyFrom_5 ?_
  refine r_iconst dX0_copyFrom_6 ?_
  refine r_aload_n (k := 1) rfl rfl dX0_copyFrom_7 ?_
  refine r_gI (k := 11) (kz := 11) rfl ckX0 ho1 rfl (by decide) rfl rfl fl_X0_45 dX0_copyFrom_8 ?_
  refine r_iconst dX0_copyFrom_11 ?_
  refine r_isub dX0_copyFrom_12 ?_
  refine r_iconst dX0_copyFrom_13 ?_
  refine r_iconst dX0_copyFrom_14 ?_
  refine r_ldc (n := 16434824) co_X0_52 dX0_copyFrom_15 ?_
  obtain ⟨c2, H⟩ := H
  refine r_callV (g := mX0_addRange) ckX0 ho0 rfl rfl rfl mkX0_addRange mvX0_addRange ml_X0_79 ⟨by decide, by decide⟩ rfl (Nat.le_of_ble_eq_true rfl) rfl (ok_r (ok_i ⟨by decide, by decide⟩ (ok_i c2 (ok_i ⟨by decide, by decide⟩ (ok_i ⟨by decide, by decide⟩ (ok_i ⟨by decide, by decide⟩ ok_n)))))) dX0_copyFrom_17 (sl_afterV (sl_RV.mono (fun M3 hM3 H => ?_) H))
  refine r_vret rfl dX0_copyFrom_20 ?_
  exact H
theorem eX0_copyFrom {l : Launch} {M : sl_M} {Q : sl_R} {o0 o1 : Nat} (k : sl_At l mX0_copyFrom 0 [(0, vR o0 0), (1, vR o1 0)] [] M Q) : sl_Runs l mX0_copyFrom [vR o0 0, vR o1 0] M Q := sl_Runs.of (ls := [(0, vR o0 0), (1, vR o1 0)]) rfl rfl (fun _ => rfl) (fun _ => Nat.le_of_ble_eq_true rfl) rfl (k)
theorem dX0_property_0 : decode cX0_property 0 = .ok (.iload_n 2, 1) := by decide +kernel
theorem dX0_property_1 : decode cX0_property 1 = .ok (.tableswitch 93 0 5 #[39, 46, 53, 60, 66, 73], 39) := by decide +kernel
theorem dX0_property_40 : decode cX0_property 40 = .ok (.aload_n 0, 1) := by decide +kernel
theorem dX0_property_41 : decode cX0_property 41 = .ok (.getfield 9, 3) := by decide +kernel
theorem dX0_property_44 : decode cX0_property 44 = .ok (.iload_n 1, 1) := by decide +kernel
theorem dX0_property_45 : decode cX0_property 45 = .ok (.iaload, 1) := by decide +kernel
theorem dX0_property_46 : decode cX0_property 46 = .ok (.ireturn, 1) := by decide +kernel
theorem dX0_property_47 : decode cX0_property 47 = .ok (.aload_n 0, 1) := by decide +kernel
theorem dX0_property_48 : decode cX0_property 48 = .ok (.getfield 15, 3) := by decide +kernel
theorem dX0_property_51 : decode cX0_property 51 = .ok (.iload_n 1, 1) := by decide +kernel
theorem dX0_property_52 : decode cX0_property 52 = .ok (.iaload, 1) := by decide +kernel
theorem dX0_property_53 : decode cX0_property 53 = .ok (.ireturn, 1) := by decide +kernel
theorem dX0_property_54 : decode cX0_property 54 = .ok (.aload_n 0, 1) := by decide +kernel
theorem dX0_property_55 : decode cX0_property 55 = .ok (.getfield 18, 3) := by decide +kernel
theorem dX0_property_58 : decode cX0_property 58 = .ok (.iload_n 1, 1) := by decide +kernel
theorem dX0_property_59 : decode cX0_property 59 = .ok (.iaload, 1) := by decide +kernel
theorem dX0_property_60 : decode cX0_property 60 = .ok (.ireturn, 1) := by decide +kernel
theorem dX0_property_61 : decode cX0_property 61 = .ok (.aload_n 0, 1) := by decide +kernel
theorem dX0_property_62 : decode cX0_property 62 = .ok (.iload_n 1, 1) := by decide +kernel
theorem dX0_property_63 : decode cX0_property 63 = .ok (.invokevirtual 83, 3) := by decide +kernel
theorem dX0_property_66 : decode cX0_property 66 = .ok (.ireturn, 1) := by decide +kernel
theorem dX0_property_67 : decode cX0_property 67 = .ok (.aload_n 0, 1) := by decide +kernel
theorem dX0_property_68 : decode cX0_property 68 = .ok (.getfield 21, 3) := by decide +kernel
theorem dX0_property_71 : decode cX0_property 71 = .ok (.iload_n 1, 1) := by decide +kernel
theorem dX0_property_72 : decode cX0_property 72 = .ok (.iaload, 1) := by decide +kernel
theorem dX0_property_73 : decode cX0_property 73 = .ok (.ireturn, 1) := by decide +kernel
theorem dX0_property_74 : decode cX0_property 74 = .ok (.aload_n 0, 1) := by decide +kernel
theorem dX0_property_75 : decode cX0_property 75 = .ok (.getfield 9, 3) := by decide +kernel
theorem dX0_property_78 : decode cX0_property 78 = .ok (.iload_n 1, 1) := by decide +kernel
theorem dX0_property_79 : decode cX0_property 79 = .ok (.iaload, 1) := by decide +kernel
theorem dX0_property_80 : decode cX0_property 80 = .ok (.ifCond .ne 12, 3) := by decide +kernel
theorem dX0_property_83 : decode cX0_property 83 = .ok (.aload_n 0, 1) := by decide +kernel
theorem dX0_property_84 : decode cX0_property 84 = .ok (.getfield 27, 3) := by decide +kernel
theorem dX0_property_87 : decode cX0_property 87 = .ok (.iload_n 1, 1) := by decide +kernel
theorem dX0_property_88 : decode cX0_property 88 = .ok (.iaload, 1) := by decide +kernel
theorem dX0_property_89 : decode cX0_property 89 = .ok (.goto 4, 3) := by decide +kernel
theorem dX0_property_92 : decode cX0_property 92 = .ok (.iconst (-1), 1) := by decide +kernel
theorem dX0_property_93 : decode cX0_property 93 = .ok (.ireturn, 1) := by decide +kernel
theorem dX0_property_94 : decode cX0_property 94 = .ok (.aload_n 0, 1) := by decide +kernel
theorem dX0_property_95 : decode cX0_property 95 = .ok (.getfield 9, 3) := by decide +kernel
theorem dX0_property_98 : decode cX0_property 98 = .ok (.iload_n 1, 1) := by decide +kernel
theorem dX0_property_99 : decode cX0_property 99 = .ok (.iaload, 1) := by decide +kernel
theorem dX0_property_100 : decode cX0_property 100 = .ok (.bipush 7, 2) := by decide +kernel
theorem dX0_property_102 : decode cX0_property 102 = .ok (.if_icmp .ne 12, 3) := by decide +kernel
theorem dX0_property_105 : decode cX0_property 105 = .ok (.aload_n 0, 1) := by decide +kernel
theorem dX0_property_106 : decode cX0_property 106 = .ok (.getfield 27, 3) := by decide +kernel
theorem dX0_property_109 : decode cX0_property 109 = .ok (.iload_n 1, 1) := by decide +kernel
theorem dX0_property_110 : decode cX0_property 110 = .ok (.iaload, 1) := by decide +kernel
theorem dX0_property_111 : decode cX0_property 111 = .ok (.goto 4, 3) := by decide +kernel
theorem dX0_property_114 : decode cX0_property 114 = .ok (.iconst (-1), 1) := by decide +kernel
theorem dX0_property_115 : decode cX0_property 115 = .ok (.ireturn, 1) := by decide +kernel
set_option maxHeartbeats 4000000 in
set_option maxRecDepth 10000 in
theorem vX0_property_0 {l : Launch} {M : sl_M} {Q : sl_R} {o0 : Nat} {x1 x2 : Int} (ho0 : sl_cls o0 = 0) (H : sl_RM M → sl_rg x1 → sl_rg x2 → ((x2 = 0) → (0 ≤ x1 ∧ x1 < 40) ∧ Q (some (vI (M o0 1 x1))) M) ∧ ((x2 = 1) → (0 ≤ x1 ∧ x1 < 40) ∧ Q (some (vI (M o0 2 x1))) M) ∧ ((x2 = 2) → (0 ≤ x1 ∧ x1 < 40) ∧ Q (some (vI (M o0 3 x1))) M) ∧ ((x2 = 3) → sl_RI l mX0_position [vR o0 0, vI x1] M (fun y5 M4 => Q (some (vI y5)) M4)) ∧ ((x2 = 4) → (0 ≤ x1 ∧ x1 < 40) ∧ Q (some (vI (M o0 4 x1))) M) ∧ ((x2 = 5) → (0 ≤ x1 ∧ x1 < 40) ∧ Q (some (vI (if M o0 1 x1 ≠ 0 then (-1) else M o0 6 x1))) M) ∧ ((¬ (x2 = 0) ∧ ¬ (x2 = 1) ∧ ¬ (x2 = 2) ∧ ¬ (x2 = 3) ∧ ¬ (x2 = 4) ∧ ¬ (x2 = 5)) → (0 ≤ x1 ∧ x1 < 40) ∧ Q (some (vI (if M o0 1 x1 ≠ 7 then (-1) else M o0 6 x1))) M)) : sl_At l mX0_property 0 [(0, vR o0 0), (1, vI x1), (2, vI x2)] [] M Q := by
  refine sl_At.in (fun hM hls => ?_)
  have g1 : sl_rg x1 := hls _ (List.mem_of_getElem? (i := 1) rfl)
  have g2 : sl_rg x2 := hls _ (List.mem_of_getElem? (i := 2) rfl)
  have H := H hM g1 g2
  refine r_iload_n (k := 2) rfl rfl dX0_property_0 ?_
  by_cases h11 : x2 = 0
  · refine r_tsIn (tgt := 40) 0 g2 dX0_property_1 (by omega) (by decide) rfl (by decide) ?_
    have H := H.1 (by omega)
    refine r_aload_n (k := 0) rfl rfl dX0_property_40 ?_
    refine r_getR (k := 0) (o' := o0) (i' := 1) ckX0 ho0 rfl (by decide) rfl rfl rfl fl_X0_9 dX0_property_41 ?_
    refine r_iload_n (k := 1) rfl rfl dX0_property_44 ?_
    obtain ⟨c1, H⟩ := H
    refine r_iald ho0 rfl rfl c1 dX0_property_45 ?_
    refine r_iret rfl (hM _ _ _) dX0_property_46 ?_
    exact H
  by_cases h12 : x2 = 1
  · refine r_tsIn (tgt := 47) 1 g2 dX0_property_1 (by omega) (by decide) rfl (by decide) ?_
    have H := H.2.1 (by omega)
    refine r_aload_n (k := 0) rfl rfl dX0_property_47 ?_
    refine r_getR (k := 1) (o' := o0) (i' := 2) ckX0 ho0 rfl (by decide) rfl rfl rfl fl_X0_15 dX0_property_48 ?_
    refine r_iload_n (k := 1) rfl rfl dX0_property_51 ?_
    obtain ⟨c2, H⟩ := H
    refine r_iald ho0 rfl rfl c2 dX0_property_52 ?_
    refine r_iret rfl (hM _ _ _) dX0_property_53 ?_
    exact H
  by_cases h13 : x2 = 2
  · refine r_tsIn (tgt := 54) 2 g2 dX0_property_1 (by omega) (by decide) rfl (by decide) ?_
    have H := H.2.2.1 (by omega)
    refine r_aload_n (k := 0) rfl rfl dX0_property_54 ?_
    refine r_getR (k := 2) (o' := o0) (i' := 3) ckX0 ho0 rfl (by decide) rfl rfl rfl fl_X0_18 dX0_property_55 ?_
    refine r_iload_n (k := 1) rfl rfl dX0_property_58 ?_
    obtain ⟨c3, H⟩ := H
    refine r_iald ho0 rfl rfl c3 dX0_property_59 ?_
    refine r_iret rfl (hM _ _ _) dX0_property_60 ?_
    exact H
  by_cases h14 : x2 = 3
  · refine r_tsIn (tgt := 61) 3 g2 dX0_property_1 (by omega) (by decide) rfl (by decide) ?_
    have H := H.2.2.2.1 (by omega)
    refine r_aload_n (k := 0) rfl rfl dX0_property_61 ?_
    refine r_iload_n (k := 1) rfl rfl dX0_property_62 ?_
    refine r_callV (g := mX0_position) ckX0 ho0 rfl rfl rfl mkX0_position mvX0_position ml_X0_83 ⟨by decide, by decide⟩ rfl (Nat.le_of_ble_eq_true rfl) rfl (ok_i g1 ok_n) dX0_property_63 (sl_afterI (sl_RI.mono (fun y5 M4 gy5 hM4 H => ?_) H))
    refine r_iret rfl gy5 dX0_property_66 ?_
    exact H
  by_cases h15 : x2 = 4
  · refine r_tsIn (tgt := 67) 4 g2 dX0_property_1 (by omega) (by decide) rfl (by decide) ?_
    have H := H.2.2.2.2.1 (by omega)
    refine r_aload_n (k := 0) rfl rfl dX0_property_67 ?_
    refine r_getR (k := 3) (o' := o0) (i' := 4) ckX0 ho0 rfl (by decide) rfl rfl rfl fl_X0_21 dX0_property_68 ?_
    refine r_iload_n (k := 1) rfl rfl dX0_property_71 ?_
    obtain ⟨c6, H⟩ := H
    refine r_iald ho0 rfl rfl c6 dX0_property_72 ?_
    refine r_iret rfl (hM _ _ _) dX0_property_73 ?_
    exact H
  by_cases h16 : x2 = 5
  · refine r_tsIn (tgt := 74) 5 g2 dX0_property_1 (by omega) (by decide) rfl (by decide) ?_
    have H := H.2.2.2.2.2.1 (by omega)
    refine r_aload_n (k := 0) rfl rfl dX0_property_74 ?_
    refine r_getR (k := 0) (o' := o0) (i' := 1) ckX0 ho0 rfl (by decide) rfl rfl rfl fl_X0_9 dX0_property_75 ?_
    refine r_iload_n (k := 1) rfl rfl dX0_property_78 ?_
    obtain ⟨c7, H⟩ := H
    refine r_iald ho0 rfl rfl c7 dX0_property_79 ?_
    have J : sl_At l mX0_property 93 [(0, vR o0 0), (1, vI x1), (2, vI x2)] [vI (if M o0 1 x1 ≠ 0 then (-1) else M o0 6 x1)] M Q := by
      refine r_iret rfl (sl_rgite ⟨by decide, by decide⟩ (hM _ _ _)) dX0_property_93 ?_
      exact H
    refine r_if_ne (tgt := 92) (hM _ _ _) dX0_property_80 (by decide) (fun h8 => ?_) (fun h8 => ?_)
    · refine r_iconst dX0_property_92 ?_
      rw [if_pos h8] at J
      exact J
    · refine r_aload_n (k := 0) rfl rfl dX0_property_83 ?_
      refine r_getR (k := 5) (o' := o0) (i' := 6) ckX0 ho0 rfl (by decide) rfl rfl rfl fl_X0_27 dX0_property_84 ?_
      refine r_iload_n (k := 1) rfl rfl dX0_property_87 ?_
      refine r_iald ho0 rfl rfl c7 dX0_property_88 ?_
      refine r_goto (tgt := 93) dX0_property_89 (by decide) ?_
      rw [if_neg h8] at J
      exact J
  refine r_tsOut (tgt := 94) g2 dX0_property_1 (by omega) (by decide) ?_
  have H := H.2.2.2.2.2.2 (by omega)
  refine r_aload_n (k := 0) rfl rfl dX0_property_94 ?_
  refine r_getR (k := 0) (o' := o0) (i' := 1) ckX0 ho0 rfl (by decide) rfl rfl rfl fl_X0_9 dX0_property_95 ?_
  refine r_iload_n (k := 1) rfl rfl dX0_property_98 ?_
  obtain ⟨c9, H⟩ := H
  refine r_iald ho0 rfl rfl c9 dX0_property_99 ?_
  refine r_bipush dX0_property_100 (by decide) ?_
  have J : sl_At l mX0_property 115 [(0, vR o0 0), (1, vI x1), (2, vI x2)] [vI (if M o0 1 x1 ≠ 7 then (-1) else M o0 6 x1)] M Q := by
    refine r_iret rfl (sl_rgite ⟨by decide, by decide⟩ (hM _ _ _)) dX0_property_115 ?_
    exact H
  refine r_icmp_ne (tgt := 114) (hM _ _ _) ⟨by decide, by decide⟩ dX0_property_102 (by decide) (fun h10 => ?_) (fun h10 => ?_)
  · refine r_iconst dX0_property_114 ?_
    rw [if_pos h10] at J
    exact J
  · refine r_aload_n (k := 0) rfl rfl dX0_property_105 ?_
    refine r_getR (k := 5) (o' := o0) (i' := 6) ckX0 ho0 rfl (by decide) rfl rfl rfl fl_X0_27 dX0_property_106 ?_
    refine r_iload_n (k := 1) rfl rfl dX0_property_109 ?_
    refine r_iald ho0 rfl rfl c9 dX0_property_110 ?_
    refine r_goto (tgt := 115) dX0_property_111 (by decide) ?_
    rw [if_neg h10] at J
    exact J
theorem eX0_property {l : Launch} {M : sl_M} {Q : sl_R} {o0 : Nat} {x1 x2 : Int} (k : sl_At l mX0_property 0 [(0, vR o0 0), (1, vI x1), (2, vI x2)] [] M Q) : sl_Runs l mX0_property [vR o0 0, vI x1, vI x2] M Q := sl_Runs.of (ls := [(0, vR o0 0), (1, vI x1), (2, vI x2)]) rfl rfl (fun _ => rfl) (fun _ => Nat.le_of_ble_eq_true rfl) rfl (k)
theorem dX0_symbol_0 : decode cX0_symbol 0 = .ok (.iload_n 2, 1) := by decide +kernel
theorem dX0_symbol_1 : decode cX0_symbol 1 = .ok (.aload_n 0, 1) := by decide +kernel
theorem dX0_symbol_2 : decode cX0_symbol 2 = .ok (.getfield 36, 3) := by decide +kernel
theorem dX0_symbol_5 : decode cX0_symbol 5 = .ok (.iload_n 1, 1) := by decide +kernel
theorem dX0_symbol_6 : decode cX0_symbol 6 = .ok (.iaload, 1) := by decide +kernel
theorem dX0_symbol_7 : decode cX0_symbol 7 = .ok (.if_icmp .ge 19, 3) := by decide +kernel
theorem dX0_symbol_10 : decode cX0_symbol 10 = .ok (.aload_n 0, 1) := by decide +kernel
theorem dX0_symbol_11 : decode cX0_symbol 11 = .ok (.getfield 42, 3) := by decide +kernel
theorem dX0_symbol_14 : decode cX0_symbol 14 = .ok (.aload_n 0, 1) := by decide +kernel
theorem dX0_symbol_15 : decode cX0_symbol 15 = .ok (.getfield 33, 3) := by decide +kernel
theorem dX0_symbol_18 : decode cX0_symbol 18 = .ok (.iload_n 1, 1) := by decide +kernel
theorem dX0_symbol_19 : decode cX0_symbol 19 = .ok (.iaload, 1) := by decide +kernel
theorem dX0_symbol_20 : decode cX0_symbol 20 = .ok (.iload_n 2, 1) := by decide +kernel
theorem dX0_symbol_21 : decode cX0_symbol 21 = .ok (.iadd, 1) := by decide +kernel
theorem dX0_symbol_22 : decode cX0_symbol 22 = .ok (.iaload, 1) := by decide +kernel
theorem dX0_symbol_23 : decode cX0_symbol 23 = .ok (.goto 4, 3) := by decide +kernel
theorem dX0_symbol_26 : decode cX0_symbol 26 = .ok (.iconst (-1), 1) := by decide +kernel
theorem dX0_symbol_27 : decode cX0_symbol 27 = .ok (.ireturn, 1) := by decide +kernel
set_option maxHeartbeats 4000000 in
set_option maxRecDepth 10000 in
theorem vX0_symbol_0 {l : Launch} {M : sl_M} {Q : sl_R} {o0 : Nat} {x1 x2 : Int} (ho0 : sl_cls o0 = 0) (H : sl_RM M → sl_rg x1 → sl_rg x2 → (0 ≤ x1 ∧ x1 < 40) ∧ (((¬ (M o0 9 x1 ≤ x2)) → (0 ≤ M o0 8 x1 + x2 ∧ M o0 8 x1 + x2 < 160))) ∧ Q (some (vI (if M o0 9 x1 ≤ x2 then (-1) else M o0 11 (M o0 8 x1 + x2)))) M) : sl_At l mX0_symbol 0 [(0, vR o0 0), (1, vI x1), (2, vI x2)] [] M Q := by
  refine sl_At.in (fun hM hls => ?_)
  have g1 : sl_rg x1 := hls _ (List.mem_of_getElem? (i := 1) rfl)
  have g2 : sl_rg x2 := hls _ (List.mem_of_getElem? (i := 2) rfl)
  have H := H hM g1 g2
  refine r_iload_n (k := 2) rfl rfl dX0_symbol_0 ?_
  refine r_aload_n (k := 0) rfl rfl dX0_symbol_1 ?_
  refine r_getR (k := 8) (o' := o0) (i' := 9) ckX0 ho0 rfl (by decide) rfl rfl rfl fl_X0_36 dX0_symbol_2 ?_
  refine r_iload_n (k := 1) rfl rfl dX0_symbol_5 ?_
  obtain ⟨c1, H⟩ := H
  refine r_iald ho0 rfl rfl c1 dX0_symbol_6 ?_
  obtain ⟨K, H⟩ := H
  have J : sl_At l mX0_symbol 27 [(0, vR o0 0), (1, vI x1), (2, vI x2)] [vI (if M o0 9 x1 ≤ x2 then (-1) else M o0 11 (M o0 8 x1 + x2))] M Q := by
    refine r_iret rfl (sl_rgite ⟨by decide, by decide⟩ (hM _ _ _)) dX0_symbol_27 ?_
    exact H
  refine r_icmp_ge (tgt := 26) g2 (hM _ _ _) dX0_symbol_7 (by decide) (fun h3 => ?_) (fun h3 => ?_)
  · refine r_iconst dX0_symbol_26 ?_
    rw [if_pos h3] at J
    exact J
  · replace K := K h3
    have c2 := K
    refine r_aload_n (k := 0) rfl rfl dX0_symbol_10 ?_
    refine r_getR (k := 10) (o' := o0) (i' := 11) ckX0 ho0 rfl (by decide) rfl rfl rfl fl_X0_42 dX0_symbol_11 ?_
    refine r_aload_n (k := 0) rfl rfl dX0_symbol_14 ?_
    refine r_getR (k := 7) (o' := o0) (i' := 8) ckX0 ho0 rfl (by decide) rfl rfl rfl fl_X0_33 dX0_symbol_15 ?_
    refine r_iload_n (k := 1) rfl rfl dX0_symbol_18 ?_
    refine r_iald ho0 rfl rfl c1 dX0_symbol_19 ?_
    refine r_iload_n (k := 2) rfl rfl dX0_symbol_20 ?_
    refine r_iadd dX0_symbol_21 ?_
    refine r_iald ho0 rfl rfl c2 dX0_symbol_22 ?_
    refine r_goto (tgt := 27) dX0_symbol_23 (by decide) ?_
    rw [if_neg h3] at J
    exact J
theorem eX0_symbol {l : Launch} {M : sl_M} {Q : sl_R} {o0 : Nat} {x1 x2 : Int} (k : sl_At l mX0_symbol 0 [(0, vR o0 0), (1, vI x1), (2, vI x2)] [] M Q) : sl_Runs l mX0_symbol [vR o0 0, vI x1, vI x2] M Q := sl_Runs.of (ls := [(0, vR o0 0), (1, vI x1), (2, vI x2)]) rfl rfl (fun _ => rfl) (fun _ => Nat.le_of_ble_eq_true rfl) rfl (k)
theorem dX0_position_0 : decode cX0_position 0 = .ok (.iconst 0, 1) := by decide +kernel
theorem dX0_position_1 : decode cX0_position 1 = .ok (.istore_n 2, 1) := by decide +kernel
theorem dX0_position_2 : decode cX0_position 2 = .ok (.aload_n 0, 1) := by decide +kernel
theorem dX0_position_3 : decode cX0_position 3 = .ok (.getfield 15, 3) := by decide +kernel
theorem dX0_position_6 : decode cX0_position 6 = .ok (.iload_n 1, 1) := by decide +kernel
theorem dX0_position_7 : decode cX0_position 7 = .ok (.iaload, 1) := by decide +kernel
theorem dX0_position_8 : decode cX0_position 8 = .ok (.iconst 1, 1) := by decide +kernel
theorem dX0_position_9 : decode cX0_position 9 = .ok (.iadd, 1) := by decide +kernel
theorem dX0_position_10 : decode cX0_position 10 = .ok (.istore_n 3, 1) := by decide +kernel
theorem dX0_position_11 : decode cX0_position 11 = .ok (.iload_n 3, 1) := by decide +kernel
theorem dX0_position_12 : decode cX0_position 12 = .ok (.iload_n 1, 1) := by decide +kernel
theorem dX0_position_13 : decode cX0_position 13 = .ok (.if_icmp .ge 35, 3) := by decide +kernel
theorem dX0_position_16 : decode cX0_position 16 = .ok (.aload_n 0, 1) := by decide +kernel
theorem dX0_position_17 : decode cX0_position 17 = .ok (.getfield 21, 3) := by decide +kernel
theorem dX0_position_20 : decode cX0_position 20 = .ok (.iload_n 3, 1) := by decide +kernel
theorem dX0_position_21 : decode cX0_position 21 = .ok (.iaload, 1) := by decide +kernel
theorem dX0_position_22 : decode cX0_position 22 = .ok (.aload_n 0, 1) := by decide +kernel
theorem dX0_position_23 : decode cX0_position 23 = .ok (.getfield 21, 3) := by decide +kernel
theorem dX0_position_26 : decode cX0_position 26 = .ok (.iload_n 1, 1) := by decide +kernel
theorem dX0_position_27 : decode cX0_position 27 = .ok (.iaload, 1) := by decide +kernel
theorem dX0_position_28 : decode cX0_position 28 = .ok (.if_icmp .ne 6, 3) := by decide +kernel
theorem dX0_position_31 : decode cX0_position 31 = .ok (.iinc 2 1, 3) := by decide +kernel
theorem dX0_position_34 : decode cX0_position 34 = .ok (.iload_n 3, 1) := by decide +kernel
theorem dX0_position_35 : decode cX0_position 35 = .ok (.aload_n 0, 1) := by decide +kernel
theorem dX0_position_36 : decode cX0_position 36 = .ok (.getfield 18, 3) := by decide +kernel
theorem dX0_position_39 : decode cX0_position 39 = .ok (.iload_n 3, 1) := by decide +kernel
theorem dX0_position_40 : decode cX0_position 40 = .ok (.iaload, 1) := by decide +kernel
theorem dX0_position_41 : decode cX0_position 41 = .ok (.iconst 1, 1) := by decide +kernel
theorem dX0_position_42 : decode cX0_position 42 = .ok (.iadd, 1) := by decide +kernel
theorem dX0_position_43 : decode cX0_position 43 = .ok (.iadd, 1) := by decide +kernel
theorem dX0_position_44 : decode cX0_position 44 = .ok (.istore_n 3, 1) := by decide +kernel
theorem dX0_position_45 : decode cX0_position 45 = .ok (.goto (-34), 3) := by decide +kernel
theorem dX0_position_48 : decode cX0_position 48 = .ok (.iload_n 2, 1) := by decide +kernel
theorem dX0_position_49 : decode cX0_position 49 = .ok (.ireturn, 1) := by decide +kernel
set_option maxHeartbeats 4000000 in
set_option maxRecDepth 10000 in
theorem vX0_position_0 {l : Launch} {M : sl_M} {Q : sl_R} {o0 : Nat} {x1 : Int} (ho0 : sl_cls o0 = 0) (H : sl_RM M → sl_rg x1 → (0 ≤ x1 ∧ x1 < 40) ∧ (sl_rg (M o0 2 x1 + 1)) ∧ (∀ y3 : Int, y3 = M o0 2 x1 + 1 → sl_At l mX0_position 11 [(0, vR o0 0), (1, vI x1), (2, vI 0), (3, vI y3)] [] M Q)) : sl_At l mX0_position 0 [(0, vR o0 0), (1, vI x1)] [] M Q := by
  refine sl_At.in (fun hM hls => ?_)
  have g1 : sl_rg x1 := hls _ (List.mem_of_getElem? (i := 1) rfl)
  have H := H hM g1
  refine r_iconst dX0_position_0 ?_
  refine r_istore_n (ls' := [(2, vI 0), (0, vR o0 0), (1, vI x1)]) ⟨by decide, by decide⟩ rfl (by decide) rfl dX0_position_1 ?_
  refine r_aload_n (k := 1) rfl rfl dX0_position_2 ?_
  refine r_getR (k := 1) (o' := o0) (i' := 2) ckX0 ho0 rfl (by decide) rfl rfl rfl fl_X0_15 dX0_position_3 ?_
  refine r_iload_n (k := 2) rfl rfl dX0_position_6 ?_
  obtain ⟨c1, H⟩ := H
  refine r_iald ho0 rfl rfl c1 dX0_position_7 ?_
  refine r_iconst dX0_position_8 ?_
  refine r_iadd dX0_position_9 ?_
  obtain ⟨c2, H⟩ := H
  refine r_nm (fun y3 fy3 => ?_)
  have H := H y3 fy3
  have gy3 : sl_rg y3 := by rw [fy3]; exact c2
  refine r_istore_n (ls' := [(3, vI y3), (2, vI 0), (0, vR o0 0), (1, vI x1)]) gy3 rfl (by decide) rfl dX0_position_10 ?_
  exact sl_At.sub [2, 3, 1, 0] rfl H
set_option maxHeartbeats 4000000 in
set_option maxRecDepth 10000 in
theorem vX0_position_11 {l : Launch} {M : sl_M} {Q : sl_R} {o0 : Nat} {x1 x2 x3 : Int} (ho0 : sl_cls o0 = 0) (H : sl_RM M → sl_rg x1 → sl_rg x2 → sl_rg x3 → ((x1 ≤ x3) → Q (some (vI x2)) M) ∧ ((¬ (x1 ≤ x3)) → (0 ≤ x3 ∧ x3 < 40) ∧ (0 ≤ x1 ∧ x1 < 40) ∧ ((M o0 4 x3 ≠ M o0 4 x1) → (sl_rg (x3 + (M o0 3 x3 + 1))) ∧ (∀ y6 : Int, y6 = x3 + (M o0 3 x3 + 1) → sl_At l mX0_position 11 [(0, vR o0 0), (1, vI x1), (2, vI x2), (3, vI y6)] [] M Q)) ∧ ((¬ (M o0 4 x3 ≠ M o0 4 x1)) → (sl_rg (x2 + 1)) ∧ (sl_rg (x3 + (M o0 3 x3 + 1))) ∧ (∀ y9 : Int, y9 = x3 + (M o0 3 x3 + 1) → sl_At l mX0_position 11 [(0, vR o0 0), (1, vI x1), (2, vI (x2 + 1)), (3, vI y9)] [] M Q)))) : sl_At l mX0_position 11 [(0, vR o0 0), (1, vI x1), (2, vI x2), (3, vI x3)] [] M Q := by
  refine sl_At.in (fun hM hls => ?_)
  have g1 : sl_rg x1 := hls _ (List.mem_of_getElem? (i := 1) rfl)
  have g2 : sl_rg x2 := hls _ (List.mem_of_getElem? (i := 2) rfl)
  have g3 : sl_rg x3 := hls _ (List.mem_of_getElem? (i := 3) rfl)
  have H := H hM g1 g2 g3
  refine r_iload_n (k := 3) rfl rfl dX0_position_11 ?_
  refine r_iload_n (k := 1) rfl rfl dX0_position_12 ?_
  refine r_icmp_ge (tgt := 48) g3 g1 dX0_position_13 (by decide) (fun h1 => ?_) (fun h1 => ?_)
  · have H := H.1 h1
    refine r_iload_n (k := 2) rfl rfl dX0_position_48 ?_
    refine r_iret rfl g2 dX0_position_49 ?_
    exact H
  · have H := H.2 h1
    refine r_aload_n (k := 0) rfl rfl dX0_position_16 ?_
    refine r_getR (k := 3) (o' := o0) (i' := 4) ckX0 ho0 rfl (by decide) rfl rfl rfl fl_X0_21 dX0_position_17 ?_
    refine r_iload_n (k := 3) rfl rfl dX0_position_20 ?_
    obtain ⟨c2, H⟩ := H
    refine r_iald ho0 rfl rfl c2 dX0_position_21 ?_
    refine r_aload_n (k := 0) rfl rfl dX0_position_22 ?_
    refine r_getR (k := 3) (o' := o0) (i' := 4) ckX0 ho0 rfl (by decide) rfl rfl rfl fl_X0_21 dX0_position_23 ?_
    refine r_iload_n (k := 1) rfl rfl dX0_position_26 ?_
    obtain ⟨c3, H⟩ := H
    refine r_iald ho0 rfl rfl c3 dX0_position_27 ?_
    refine r_icmp_ne (tgt := 34) (hM _ _ _) (hM _ _ _) dX0_position_28 (by decide) (fun h4 => ?_) (fun h4 => ?_)
    · have H := H.1 h4
      refine r_iload_n (k := 3) rfl rfl dX0_position_34 ?_
      refine r_aload_n (k := 0) rfl rfl dX0_position_35 ?_
      refine r_getR (k := 2) (o' := o0) (i' := 3) ckX0 ho0 rfl (by decide) rfl rfl rfl fl_X0_18 dX0_position_36 ?_
      refine r_iload_n (k := 3) rfl rfl dX0_position_39 ?_
      refine r_iald ho0 rfl rfl c2 dX0_position_40 ?_
      refine r_iconst dX0_position_41 ?_
      refine r_iadd dX0_position_42 ?_
      refine r_iadd dX0_position_43 ?_
      obtain ⟨c5, H⟩ := H
      refine r_nm (fun y6 fy6 => ?_)
      have H := H y6 fy6
      have gy6 : sl_rg y6 := by rw [fy6]; exact c5
      refine r_istore_n (ls' := [(3, vI y6), (0, vR o0 0), (1, vI x1), (2, vI x2)]) gy6 rfl (by decide) rfl dX0_position_44 ?_
      refine r_goto (tgt := 11) dX0_position_45 (by decide) ?_
      exact sl_At.sub [1, 2, 3, 0] rfl H
    · have H := H.2 h4
      obtain ⟨c7, H⟩ := H
      refine r_iinc (k := 2) (ls' := [(2, vI (x2 + 1)), (0, vR o0 0), (1, vI x1), (3, vI x3)]) rfl c7 (by decide) rfl dX0_position_31 ?_
      refine r_iload_n (k := 3) rfl rfl dX0_position_34 ?_
      refine r_aload_n (k := 1) rfl rfl dX0_position_35 ?_
      refine r_getR (k := 2) (o' := o0) (i' := 3) ckX0 ho0 rfl (by decide) rfl rfl rfl fl_X0_18 dX0_position_36 ?_
      refine r_iload_n (k := 3) rfl rfl dX0_position_39 ?_
      refine r_iald ho0 rfl rfl c2 dX0_position_40 ?_
      refine r_iconst dX0_position_41 ?_
      refine r_iadd dX0_position_42 ?_
      refine r_iadd dX0_position_43 ?_
      obtain ⟨c8, H⟩ := H
      refine r_nm (fun y9 fy9 => ?_)
      have H := H y9 fy9
      have gy9 : sl_rg y9 := by rw [fy9]; exact c8
      refine r_istore_n (ls' := [(3, vI y9), (2, vI (x2 + 1)), (0, vR o0 0), (1, vI x1)]) gy9 rfl (by decide) rfl dX0_position_44 ?_
      refine r_goto (tgt := 11) dX0_position_45 (by decide) ?_
      exact sl_At.sub [2, 3, 1, 0] rfl H
theorem eX0_position {l : Launch} {M : sl_M} {Q : sl_R} {o0 : Nat} {x1 : Int} (k : sl_At l mX0_position 0 [(0, vR o0 0), (1, vI x1)] [] M Q) : sl_Runs l mX0_position [vR o0 0, vI x1] M Q := sl_Runs.of (ls := [(0, vR o0 0), (1, vI x1)]) rfl rfl (fun _ => rfl) (fun _ => Nat.le_of_ble_eq_true rfl) rfl (k)
theorem dX0_isSpan_0 : decode cX0_isSpan 0 = .ok (.aload_n 0, 1) := by decide +kernel
theorem dX0_isSpan_1 : decode cX0_isSpan 1 = .ok (.iload_n 1, 1) := by decide +kernel
theorem dX0_isSpan_2 : decode cX0_isSpan 2 = .ok (.invokevirtual 86, 3) := by decide +kernel
theorem dX0_isSpan_5 : decode cX0_isSpan 5 = .ok (.ifCond .eq 50, 3) := by decide +kernel
theorem dX0_isSpan_8 : decode cX0_isSpan 8 = .ok (.aload_n 0, 1) := by decide +kernel
theorem dX0_isSpan_9 : decode cX0_isSpan 9 = .ok (.iload_n 2, 1) := by decide +kernel
theorem dX0_isSpan_10 : decode cX0_isSpan 10 = .ok (.invokevirtual 86, 3) := by decide +kernel
theorem dX0_isSpan_13 : decode cX0_isSpan 13 = .ok (.ifCond .eq 42, 3) := by decide +kernel
theorem dX0_isSpan_16 : decode cX0_isSpan 16 = .ok (.iload_n 1, 1) := by decide +kernel
theorem dX0_isSpan_17 : decode cX0_isSpan 17 = .ok (.iload_n 2, 1) := by decide +kernel
theorem dX0_isSpan_18 : decode cX0_isSpan 18 = .ok (.if_icmp .gt 37, 3) := by decide +kernel
theorem dX0_isSpan_21 : decode cX0_isSpan 21 = .ok (.aload_n 0, 1) := by decide +kernel
theorem dX0_isSpan_22 : decode cX0_isSpan 22 = .ok (.getfield 15, 3) := by decide +kernel
theorem dX0_isSpan_25 : decode cX0_isSpan 25 = .ok (.iload_n 1, 1) := by decide +kernel
theorem dX0_isSpan_26 : decode cX0_isSpan 26 = .ok (.iaload, 1) := by decide +kernel
theorem dX0_isSpan_27 : decode cX0_isSpan 27 = .ok (.aload_n 0, 1) := by decide +kernel
theorem dX0_isSpan_28 : decode cX0_isSpan 28 = .ok (.getfield 15, 3) := by decide +kernel
theorem dX0_isSpan_31 : decode cX0_isSpan 31 = .ok (.iload_n 2, 1) := by decide +kernel
theorem dX0_isSpan_32 : decode cX0_isSpan 32 = .ok (.iaload, 1) := by decide +kernel
theorem dX0_isSpan_33 : decode cX0_isSpan 33 = .ok (.if_icmp .ne 22, 3) := by decide +kernel
theorem dX0_isSpan_36 : decode cX0_isSpan 36 = .ok (.aload_n 0, 1) := by decide +kernel
theorem dX0_isSpan_37 : decode cX0_isSpan 37 = .ok (.getfield 21, 3) := by decide +kernel
theorem dX0_isSpan_40 : decode cX0_isSpan 40 = .ok (.iload_n 1, 1) := by decide +kernel
theorem dX0_isSpan_41 : decode cX0_isSpan 41 = .ok (.iaload, 1) := by decide +kernel
theorem dX0_isSpan_42 : decode cX0_isSpan 42 = .ok (.aload_n 0, 1) := by decide +kernel
theorem dX0_isSpan_43 : decode cX0_isSpan 43 = .ok (.getfield 21, 3) := by decide +kernel
theorem dX0_isSpan_46 : decode cX0_isSpan 46 = .ok (.iload_n 2, 1) := by decide +kernel
theorem dX0_isSpan_47 : decode cX0_isSpan 47 = .ok (.iaload, 1) := by decide +kernel
theorem dX0_isSpan_48 : decode cX0_isSpan 48 = .ok (.if_icmp .ne 7, 3) := by decide +kernel
theorem dX0_isSpan_51 : decode cX0_isSpan 51 = .ok (.iconst 1, 1) := by decide +kernel
theorem dX0_isSpan_52 : decode cX0_isSpan 52 = .ok (.goto 4, 3) := by decide +kernel
theorem dX0_isSpan_55 : decode cX0_isSpan 55 = .ok (.iconst 0, 1) := by decide +kernel
theorem dX0_isSpan_56 : decode cX0_isSpan 56 = .ok (.ireturn, 1) := by decide +kernel
set_option maxHeartbeats 4000000 in
set_option maxRecDepth 10000 in
theorem vX0_isSpan_0 {l : Launch} {M : sl_M} {Q : sl_R} {o0 : Nat} {x1 x2 : Int} (ho0 : sl_cls o0 = 0) (H : sl_RM M → sl_rg x1 → sl_rg x2 → sl_RI l mX0_holds [vR o0 0, vI x1] M (fun y2 M1 => ((y2 = 0) → Q (some (vI 0)) M1) ∧ ((¬ (y2 = 0)) → sl_RI l mX0_holds [vR o0 0, vI x2] M1 (fun y5 M4 => (((¬ (y5 = 0)) → ((¬ (x2 < x1)) → (0 ≤ x1 ∧ x1 < 40) ∧ (0 ≤ x2 ∧ x2 < 40)))) ∧ Q (some (vI (if (¬ (y5 = 0)) ∧ ((¬ (x2 < x1)) ∧ ((¬ (M4 o0 2 x1 ≠ M4 o0 2 x2)) ∧ (¬ (M4 o0 4 x1 ≠ M4 o0 4 x2)))) then 1 else 0))) M4)))) : sl_At l mX0_isSpan 0 [(0, vR o0 0), (1, vI x1), (2, vI x2)] [] M Q := by
  refine sl_At.in (fun hM hls => ?_)
  have g1 : sl_rg x1 := hls _ (List.mem_of_getElem? (i := 1) rfl)
  have g2 : sl_rg x2 := hls _ (List.mem_of_getElem? (i := 2) rfl)
  have H := H hM g1 g2
  refine r_aload_n (k := 0) rfl rfl dX0_isSpan_0 ?_
  refine r_iload_n (k := 1) rfl rfl dX0_isSpan_1 ?_
  refine r_callV (g := mX0_holds) ckX0 ho0 rfl rfl rfl mkX0_holds mvX0_holds ml_X0_86 ⟨by decide, by decide⟩ rfl (Nat.le_of_ble_eq_true rfl) rfl (ok_i g1 ok_n) dX0_isSpan_2 (sl_afterI (sl_RI.mono (fun y2 M1 gy2 hM1 H => ?_) H))
  refine r_if_eq (tgt := 55) gy2 dX0_isSpan_5 (by decide) (fun h3 => ?_) (fun h3 => ?_)
  · have H := H.1 h3
    refine r_iconst dX0_isSpan_55 ?_
    refine r_zret rfl (Or.inl rfl) dX0_isSpan_56 ?_
    exact H
  · have H := H.2 h3
    refine r_aload_n (k := 0) rfl rfl dX0_isSpan_8 ?_
    refine r_iload_n (k := 2) rfl rfl dX0_isSpan_9 ?_
    refine r_callV (g := mX0_holds) ckX0 ho0 rfl rfl rfl mkX0_holds mvX0_holds ml_X0_86 ⟨by decide, by decide⟩ rfl (Nat.le_of_ble_eq_true rfl) rfl (ok_i g2 ok_n) dX0_isSpan_10 (sl_afterI (sl_RI.mono (fun y5 M4 gy5 hM4 H => ?_) H))
    obtain ⟨K, H⟩ := H
    have J : sl_At l mX0_isSpan 56 [(0, vR o0 0), (1, vI x1), (2, vI x2)] [vI (if (¬ (y5 = 0)) ∧ ((¬ (x2 < x1)) ∧ ((¬ (M4 o0 2 x1 ≠ M4 o0 2 x2)) ∧ (¬ (M4 o0 4 x1 ≠ M4 o0 4 x2)))) then 1 else 0)] M4 Q := by
      refine r_zret rfl b_01 dX0_isSpan_56 ?_
      exact H
    refine r_if_eq (tgt := 55) gy5 dX0_isSpan_13 (by decide) (fun h8 => ?_) (fun h8 => ?_)
    · refine r_iconst dX0_isSpan_55 ?_
      rw [if_neg (show ¬ ((¬ (y5 = 0)) ∧ ((¬ (x2 < x1)) ∧ ((¬ (M4 o0 2 x1 ≠ M4 o0 2 x2)) ∧ (¬ (M4 o0 4 x1 ≠ M4 o0 4 x2))))) by omega)] at J
      exact J
    · replace K := K h8
      refine r_iload_n (k := 1) rfl rfl dX0_isSpan_16 ?_
      refine r_iload_n (k := 2) rfl rfl dX0_isSpan_17 ?_
      refine r_icmp_gt (tgt := 55) g1 g2 dX0_isSpan_18 (by decide) (fun h9 => ?_) (fun h9 => ?_)
      · refine r_iconst dX0_isSpan_55 ?_
        rw [if_neg (show ¬ ((¬ (y5 = 0)) ∧ ((¬ (x2 < x1)) ∧ ((¬ (M4 o0 2 x1 ≠ M4 o0 2 x2)) ∧ (¬ (M4 o0 4 x1 ≠ M4 o0 4 x2))))) by omega)] at J
        exact J
      · replace K := K h9
        obtain ⟨c6, K⟩ := K
        have c7 := K
        refine r_aload_n (k := 0) rfl rfl dX0_isSpan_21 ?_
        refine r_getR (k := 1) (o' := o0) (i' := 2) ckX0 ho0 rfl (by decide) rfl rfl rfl fl_X0_15 dX0_isSpan_22 ?_
        refine r_iload_n (k := 1) rfl rfl dX0_isSpan_25 ?_
        refine r_iald ho0 rfl rfl c6 dX0_isSpan_26 ?_
        refine r_aload_n (k := 0) rfl rfl dX0_isSpan_27 ?_
        refine r_getR (k := 1) (o' := o0) (i' := 2) ckX0 ho0 rfl (by decide) rfl rfl rfl fl_X0_15 dX0_isSpan_28 ?_
        refine r_iload_n (k := 2) rfl rfl dX0_isSpan_31 ?_
        refine r_iald ho0 rfl rfl c7 dX0_isSpan_32 ?_
        refine r_icmp_ne (tgt := 55) (hM4 _ _ _) (hM4 _ _ _) dX0_isSpan_33 (by decide) (fun h10 => ?_) (fun h10 => ?_)
        · refine r_iconst dX0_isSpan_55 ?_
          rw [if_neg (show ¬ ((¬ (y5 = 0)) ∧ ((¬ (x2 < x1)) ∧ ((¬ (M4 o0 2 x1 ≠ M4 o0 2 x2)) ∧ (¬ (M4 o0 4 x1 ≠ M4 o0 4 x2))))) by omega)] at J
          exact J
        · refine r_aload_n (k := 0) rfl rfl dX0_isSpan_36 ?_
          refine r_getR (k := 3) (o' := o0) (i' := 4) ckX0 ho0 rfl (by decide) rfl rfl rfl fl_X0_21 dX0_isSpan_37 ?_
          refine r_iload_n (k := 1) rfl rfl dX0_isSpan_40 ?_
          refine r_iald ho0 rfl rfl c6 dX0_isSpan_41 ?_
          refine r_aload_n (k := 0) rfl rfl dX0_isSpan_42 ?_
          refine r_getR (k := 3) (o' := o0) (i' := 4) ckX0 ho0 rfl (by decide) rfl rfl rfl fl_X0_21 dX0_isSpan_43 ?_
          refine r_iload_n (k := 2) rfl rfl dX0_isSpan_46 ?_
          refine r_iald ho0 rfl rfl c7 dX0_isSpan_47 ?_
          refine r_icmp_ne (tgt := 55) (hM4 _ _ _) (hM4 _ _ _) dX0_isSpan_48 (by decide) (fun h11 => ?_) (fun h11 => ?_)
          · refine r_iconst dX0_isSpan_55 ?_
            rw [if_neg (show ¬ ((¬ (y5 = 0)) ∧ ((¬ (x2 < x1)) ∧ ((¬ (M4 o0 2 x1 ≠ M4 o0 2 x2)) ∧ (¬ (M4 o0 4 x1 ≠ M4 o0 4 x2))))) by omega)] at J
            exact J
          · refine r_iconst dX0_isSpan_51 ?_
            refine r_goto (tgt := 56) dX0_isSpan_52 (by decide) ?_
            rw [if_pos (show (¬ (y5 = 0)) ∧ ((¬ (x2 < x1)) ∧ ((¬ (M4 o0 2 x1 ≠ M4 o0 2 x2)) ∧ (¬ (M4 o0 4 x1 ≠ M4 o0 4 x2)))) by omega)] at J
            exact J
theorem eX0_isSpan {l : Launch} {M : sl_M} {Q : sl_R} {o0 : Nat} {x1 x2 : Int} (k : sl_At l mX0_isSpan 0 [(0, vR o0 0), (1, vI x1), (2, vI x2)] [] M Q) : sl_Runs l mX0_isSpan [vR o0 0, vI x1, vI x2] M Q := sl_Runs.of (ls := [(0, vR o0 0), (1, vI x1), (2, vI x2)]) rfl rfl (fun _ => rfl) (fun _ => Nat.le_of_ble_eq_true rfl) rfl (k)
theorem dX0_following_0 : decode cX0_following 0 = .ok (.iload_n 1, 1) := by decide +kernel
theorem dX0_following_1 : decode cX0_following 1 = .ok (.aload_n 0, 1) := by decide +kernel
theorem dX0_following_2 : decode cX0_following 2 = .ok (.getfield 18, 3) := by decide +kernel
theorem dX0_following_5 : decode cX0_following 5 = .ok (.iload_n 1, 1) := by decide +kernel
theorem dX0_following_6 : decode cX0_following 6 = .ok (.iaload, 1) := by decide +kernel
theorem dX0_following_7 : decode cX0_following 7 = .ok (.iadd, 1) := by decide +kernel
theorem dX0_following_8 : decode cX0_following 8 = .ok (.iconst 1, 1) := by decide +kernel
theorem dX0_following_9 : decode cX0_following 9 = .ok (.iadd, 1) := by decide +kernel
theorem dX0_following_10 : decode cX0_following 10 = .ok (.istore_n 2, 1) := by decide +kernel
theorem dX0_following_11 : decode cX0_following 11 = .ok (.iload_n 2, 1) := by decide +kernel
theorem dX0_following_12 : decode cX0_following 12 = .ok (.aload_n 0, 1) := by decide +kernel
theorem dX0_following_13 : decode cX0_following 13 = .ok (.getfield 45, 3) := by decide +kernel
theorem dX0_following_16 : decode cX0_following 16 = .ok (.if_icmp .ge 37, 3) := by decide +kernel
theorem dX0_following_19 : decode cX0_following 19 = .ok (.aload_n 0, 1) := by decide +kernel
theorem dX0_following_20 : decode cX0_following 20 = .ok (.getfield 15, 3) := by decide +kernel
theorem dX0_following_23 : decode cX0_following 23 = .ok (.iload_n 2, 1) := by decide +kernel
theorem dX0_following_24 : decode cX0_following 24 = .ok (.iaload, 1) := by decide +kernel
theorem dX0_following_25 : decode cX0_following 25 = .ok (.aload_n 0, 1) := by decide +kernel
theorem dX0_following_26 : decode cX0_following 26 = .ok (.getfield 15, 3) := by decide +kernel
theorem dX0_following_29 : decode cX0_following 29 = .ok (.iload_n 1, 1) := by decide +kernel
theorem dX0_following_30 : decode cX0_following 30 = .ok (.iaload, 1) := by decide +kernel
theorem dX0_following_31 : decode cX0_following 31 = .ok (.if_icmp .ne 22, 3) := by decide +kernel
theorem dX0_following_34 : decode cX0_following 34 = .ok (.aload_n 0, 1) := by decide +kernel
theorem dX0_following_35 : decode cX0_following 35 = .ok (.getfield 21, 3) := by decide +kernel
theorem dX0_following_38 : decode cX0_following 38 = .ok (.iload_n 2, 1) := by decide +kernel
theorem dX0_following_39 : decode cX0_following 39 = .ok (.iaload, 1) := by decide +kernel
theorem dX0_following_40 : decode cX0_following 40 = .ok (.aload_n 0, 1) := by decide +kernel
theorem dX0_following_41 : decode cX0_following 41 = .ok (.getfield 21, 3) := by decide +kernel
theorem dX0_following_44 : decode cX0_following 44 = .ok (.iload_n 1, 1) := by decide +kernel
theorem dX0_following_45 : decode cX0_following 45 = .ok (.iaload, 1) := by decide +kernel
theorem dX0_following_46 : decode cX0_following 46 = .ok (.if_icmp .ne 7, 3) := by decide +kernel
theorem dX0_following_49 : decode cX0_following 49 = .ok (.iload_n 2, 1) := by decide +kernel
theorem dX0_following_50 : decode cX0_following 50 = .ok (.goto 4, 3) := by decide +kernel
theorem dX0_following_53 : decode cX0_following 53 = .ok (.iconst (-1), 1) := by decide +kernel
theorem dX0_following_54 : decode cX0_following 54 = .ok (.ireturn, 1) := by decide +kernel
set_option maxHeartbeats 4000000 in
set_option maxRecDepth 10000 in
theorem vX0_following_0 {l : Launch} {M : sl_M} {Q : sl_R} {o0 : Nat} {x1 : Int} (ho0 : sl_cls o0 = 0) (H : sl_RM M → sl_rg x1 → (0 ≤ x1 ∧ x1 < 40) ∧ (sl_rg (x1 + (M o0 3 x1) + 1)) ∧ (∀ y3 : Int, y3 = x1 + (M o0 3 x1) + 1 → (((¬ (M o0 0 11 ≤ y3)) → (0 ≤ y3 ∧ y3 < 40))) ∧ Q (some (vI (if M o0 0 11 ≤ y3 then (-1) else (if M o0 2 y3 ≠ M o0 2 x1 then (-1) else (if M o0 4 y3 ≠ M o0 4 x1 then (-1) else y3))))) M)) : sl_At l mX0_following 0 [(0, vR o0 0), (1, vI x1)] [] M Q := by
  refine sl_At.in (fun hM hls => ?_)
  have g1 : sl_rg x1 := hls _ (List.mem_of_getElem? (i := 1) rfl)
  have H := H hM g1
  refine r_iload_n (k := 1) rfl rfl dX0_following_0 ?_
  refine r_aload_n (k := 0) rfl rfl dX0_following_1 ?_
  refine r_getR (k := 2) (o' := o0) (i' := 3) ckX0 ho0 rfl (by decide) rfl rfl rfl fl_X0_18 dX0_following_2 ?_
  refine r_iload_n (k := 1) rfl rfl dX0_following_5 ?_
  obtain ⟨c1, H⟩ := H
  refine r_iald ho0 rfl rfl c1 dX0_following_6 ?_
  refine r_iadd dX0_following_7 ?_
  refine r_iconst dX0_following_8 ?_
  refine r_iadd dX0_following_9 ?_
  obtain ⟨c2, H⟩ := H
  refine r_nm (fun y3 fy3 => ?_)
  have H := H y3 fy3
  have gy3 : sl_rg y3 := by rw [fy3]; exact c2
  refine r_istore_n (ls' := [(2, vI y3), (0, vR o0 0), (1, vI x1)]) gy3 rfl (by decide) rfl dX0_following_10 ?_
  refine r_iload_n (k := 0) rfl rfl dX0_following_11 ?_
  refine r_aload_n (k := 1) rfl rfl dX0_following_12 ?_
  refine r_gI (k := 11) (kz := 11) rfl ckX0 ho0 rfl (by decide) rfl rfl fl_X0_45 dX0_following_13 ?_
  obtain ⟨K, H⟩ := H
  have J : sl_At l mX0_following 54 [(2, vI y3), (0, vR o0 0), (1, vI x1)] [vI (if M o0 0 11 ≤ y3 then (-1) else (if M o0 2 y3 ≠ M o0 2 x1 then (-1) else (if M o0 4 y3 ≠ M o0 4 x1 then (-1) else y3)))] M Q := by
    refine r_iret rfl (sl_rgite ⟨by decide, by decide⟩ (sl_rgite ⟨by decide, by decide⟩ (sl_rgite ⟨by decide, by decide⟩ gy3))) dX0_following_54 ?_
    exact H
  refine r_icmp_ge (tgt := 53) gy3 (hM _ _ _) dX0_following_16 (by decide) (fun h5 => ?_) (fun h5 => ?_)
  · refine r_iconst dX0_following_53 ?_
    rw [if_pos h5] at J
    exact J
  · replace K := K h5
    have c4 := K
    refine r_aload_n (k := 1) rfl rfl dX0_following_19 ?_
    refine r_getR (k := 1) (o' := o0) (i' := 2) ckX0 ho0 rfl (by decide) rfl rfl rfl fl_X0_15 dX0_following_20 ?_
    refine r_iload_n (k := 0) rfl rfl dX0_following_23 ?_
    refine r_iald ho0 rfl rfl c4 dX0_following_24 ?_
    refine r_aload_n (k := 1) rfl rfl dX0_following_25 ?_
    refine r_getR (k := 1) (o' := o0) (i' := 2) ckX0 ho0 rfl (by decide) rfl rfl rfl fl_X0_15 dX0_following_26 ?_
    refine r_iload_n (k := 2) rfl rfl dX0_following_29 ?_
    refine r_iald ho0 rfl rfl c1 dX0_following_30 ?_
    refine r_icmp_ne (tgt := 53) (hM _ _ _) (hM _ _ _) dX0_following_31 (by decide) (fun h6 => ?_) (fun h6 => ?_)
    · refine r_iconst dX0_following_53 ?_
      rw [if_neg h5, if_pos h6] at J
      exact J
    · refine r_aload_n (k := 1) rfl rfl dX0_following_34 ?_
      refine r_getR (k := 3) (o' := o0) (i' := 4) ckX0 ho0 rfl (by decide) rfl rfl rfl fl_X0_21 dX0_following_35 ?_
      refine r_iload_n (k := 0) rfl rfl dX0_following_38 ?_
      refine r_iald ho0 rfl rfl c4 dX0_following_39 ?_
      refine r_aload_n (k := 1) rfl rfl dX0_following_40 ?_
      refine r_getR (k := 3) (o' := o0) (i' := 4) ckX0 ho0 rfl (by decide) rfl rfl rfl fl_X0_21 dX0_following_41 ?_
      refine r_iload_n (k := 2) rfl rfl dX0_following_44 ?_
      refine r_iald ho0 rfl rfl c1 dX0_following_45 ?_
      refine r_icmp_ne (tgt := 53) (hM _ _ _) (hM _ _ _) dX0_following_46 (by decide) (fun h7 => ?_) (fun h7 => ?_)
      · refine r_iconst dX0_following_53 ?_
        rw [if_neg h5, if_neg h6, if_pos h7] at J
        exact J
      · refine r_iload_n (k := 0) rfl rfl dX0_following_49 ?_
        refine r_goto (tgt := 54) dX0_following_50 (by decide) ?_
        rw [if_neg h5, if_neg h6, if_neg h7] at J
        exact J
theorem eX0_following {l : Launch} {M : sl_M} {Q : sl_R} {o0 : Nat} {x1 : Int} (k : sl_At l mX0_following 0 [(0, vR o0 0), (1, vI x1)] [] M Q) : sl_Runs l mX0_following [vR o0 0, vI x1] M Q := sl_Runs.of (ls := [(0, vR o0 0), (1, vI x1)]) rfl rfl (fun _ => rfl) (fun _ => Nat.le_of_ble_eq_true rfl) rfl (k)
theorem dX0_loopAround_0 : decode cX0_loopAround 0 = .ok (.aload_n 0, 1) := by decide +kernel
theorem dX0_loopAround_1 : decode cX0_loopAround 1 = .ok (.getfield 15, 3) := by decide +kernel
theorem dX0_loopAround_4 : decode cX0_loopAround 4 = .ok (.iload_n 1, 1) := by decide +kernel
theorem dX0_loopAround_5 : decode cX0_loopAround 5 = .ok (.iaload, 1) := by decide +kernel
theorem dX0_loopAround_6 : decode cX0_loopAround 6 = .ok (.istore_n 3, 1) := by decide +kernel
theorem dX0_loopAround_7 : decode cX0_loopAround 7 = .ok (.iconst 0, 1) := by decide +kernel
theorem dX0_loopAround_8 : decode cX0_loopAround 8 = .ok (.istore 4, 2) := by decide +kernel
theorem dX0_loopAround_10 : decode cX0_loopAround 10 = .ok (.iload 4, 2) := by decide +kernel
theorem dX0_loopAround_12 : decode cX0_loopAround 12 = .ok (.bipush 40, 2) := by decide +kernel
theorem dX0_loopAround_14 : decode cX0_loopAround 14 = .ok (.if_icmp .ge 38, 3) := by decide +kernel
theorem dX0_loopAround_17 : decode cX0_loopAround 17 = .ok (.iload_n 3, 1) := by decide +kernel
theorem dX0_loopAround_18 : decode cX0_loopAround 18 = .ok (.iload_n 2, 1) := by decide +kernel
theorem dX0_loopAround_19 : decode cX0_loopAround 19 = .ok (.if_icmp .lt 33, 3) := by decide +kernel
theorem dX0_loopAround_22 : decode cX0_loopAround 22 = .ok (.iload_n 3, 1) := by decide +kernel
theorem dX0_loopAround_23 : decode cX0_loopAround 23 = .ok (.ifCond .lt 29, 3) := by decide +kernel
theorem dX0_loopAround_26 : decode cX0_loopAround 26 = .ok (.aload_n 0, 1) := by decide +kernel
theorem dX0_loopAround_27 : decode cX0_loopAround 27 = .ok (.getfield 9, 3) := by decide +kernel
theorem dX0_loopAround_30 : decode cX0_loopAround 30 = .ok (.iload_n 3, 1) := by decide +kernel
theorem dX0_loopAround_31 : decode cX0_loopAround 31 = .ok (.iaload, 1) := by decide +kernel
theorem dX0_loopAround_32 : decode cX0_loopAround 32 = .ok (.bipush 6, 2) := by decide +kernel
theorem dX0_loopAround_34 : decode cX0_loopAround 34 = .ok (.if_icmp .ne 5, 3) := by decide +kernel
theorem dX0_loopAround_37 : decode cX0_loopAround 37 = .ok (.iload_n 3, 1) := by decide +kernel
theorem dX0_loopAround_38 : decode cX0_loopAround 38 = .ok (.ireturn, 1) := by decide +kernel
theorem dX0_loopAround_39 : decode cX0_loopAround 39 = .ok (.aload_n 0, 1) := by decide +kernel
theorem dX0_loopAround_40 : decode cX0_loopAround 40 = .ok (.getfield 15, 3) := by decide +kernel
theorem dX0_loopAround_43 : decode cX0_loopAround 43 = .ok (.iload_n 3, 1) := by decide +kernel
theorem dX0_loopAround_44 : decode cX0_loopAround 44 = .ok (.iaload, 1) := by decide +kernel
theorem dX0_loopAround_45 : decode cX0_loopAround 45 = .ok (.istore_n 3, 1) := by decide +kernel
theorem dX0_loopAround_46 : decode cX0_loopAround 46 = .ok (.iinc 4 1, 3) := by decide +kernel
theorem dX0_loopAround_49 : decode cX0_loopAround 49 = .ok (.goto (-39), 3) := by decide +kernel
theorem dX0_loopAround_52 : decode cX0_loopAround 52 = .ok (.iconst (-1), 1) := by decide +kernel
theorem dX0_loopAround_53 : decode cX0_loopAround 53 = .ok (.ireturn, 1) := by decide +kernel
set_option maxHeartbeats 4000000 in
set_option maxRecDepth 10000 in
theorem vX0_loopAround_0 {l : Launch} {M : sl_M} {Q : sl_R} {o0 : Nat} {x1 x2 : Int} (ho0 : sl_cls o0 = 0) (H : sl_RM M → sl_rg x1 → sl_rg x2 → (0 ≤ x1 ∧ x1 < 40) ∧ sl_At l mX0_loopAround 10 [(0, vR o0 0), (2, vI x2), (3, vI (M o0 2 x1)), (4, vI 0)] [] M Q) : sl_At l mX0_loopAround 0 [(0, vR o0 0), (1, vI x1), (2, vI x2)] [] M Q := by
  refine sl_At.in (fun hM hls => ?_)
  have g1 : sl_rg x1 := hls _ (List.mem_of_getElem? (i := 1) rfl)
  have g2 : sl_rg x2 := hls _ (List.mem_of_getElem? (i := 2) rfl)
  have H := H hM g1 g2
  refine r_aload_n (k := 0) rfl rfl dX0_loopAround_0 ?_
  refine r_getR (k := 1) (o' := o0) (i' := 2) ckX0 ho0 rfl (by decide) rfl rfl rfl fl_X0_15 dX0_loopAround_1 ?_
  refine r_iload_n (k := 1) rfl rfl dX0_loopAround_4 ?_
  obtain ⟨c1, H⟩ := H
  refine r_iald ho0 rfl rfl c1 dX0_loopAround_5 ?_
  refine r_istore_n (ls' := [(3, vI (M o0 2 x1)), (0, vR o0 0), (1, vI x1), (2, vI x2)]) (hM _ _ _) rfl (by decide) rfl dX0_loopAround_6 ?_
  refine r_iconst dX0_loopAround_7 ?_
  refine r_istore (ls' := [(4, vI 0), (3, vI (M o0 2 x1)), (0, vR o0 0), (1, vI x1), (2, vI x2)]) ⟨by decide, by decide⟩ (by decide) rfl dX0_loopAround_8 ?_
  exact sl_At.sub [2, 4, 1, 0] rfl H
set_option maxHeartbeats 4000000 in
set_option maxRecDepth 10000 in
theorem vX0_loopAround_10 {l : Launch} {M : sl_M} {Q : sl_R} {o0 : Nat} {x2 x3 x4 : Int} (ho0 : sl_cls o0 = 0) (H : sl_RM M → sl_rg x2 → sl_rg x3 → sl_rg x4 → ((40 ≤ x4) → Q (some (vI (-1))) M) ∧ ((¬ (40 ≤ x4)) → ((x3 < x2) → Q (some (vI (-1))) M) ∧ ((¬ (x3 < x2)) → ((x3 < 0) → Q (some (vI (-1))) M) ∧ ((¬ (x3 < 0)) → (0 ≤ x3 ∧ x3 < 40) ∧ ((M o0 1 x3 ≠ 6) → (sl_rg (x4 + 1)) ∧ sl_At l mX0_loopAround 10 [(0, vR o0 0), (2, vI x2), (3, vI (M o0 2 x3)), (4, vI (x4 + 1))] [] M Q) ∧ ((¬ (M o0 1 x3 ≠ 6)) → Q (some (vI x3)) M))))) : sl_At l mX0_loopAround 10 [(0, vR o0 0), (2, vI x2), (3, vI x3), (4, vI x4)] [] M Q := by
  refine sl_At.in (fun hM hls => ?_)
  have g2 : sl_rg x2 := hls _ (List.mem_of_getElem? (i := 1) rfl)
  have g3 : sl_rg x3 := hls _ (List.mem_of_getElem? (i := 2) rfl)
  have g4 : sl_rg x4 := hls _ (List.mem_of_getElem? (i := 3) rfl)
  have H := H hM g2 g3 g4
  refine r_iload (k := 3) rfl dX0_loopAround_10 ?_
  refine r_bipush dX0_loopAround_12 (by decide) ?_
  refine r_icmp_ge (tgt := 52) g4 ⟨by decide, by decide⟩ dX0_loopAround_14 (by decide) (fun h1 => ?_) (fun h1 => ?_)
  · have H := H.1 h1
    refine r_iconst dX0_loopAround_52 ?_
    refine r_iret rfl ⟨by decide, by decide⟩ dX0_loopAround_53 ?_
    exact H
  · have H := H.2 h1
    refine r_iload_n (k := 2) rfl rfl dX0_loopAround_17 ?_
    refine r_iload_n (k := 1) rfl rfl dX0_loopAround_18 ?_
    refine r_icmp_lt (tgt := 52) g3 g2 dX0_loopAround_19 (by decide) (fun h2 => ?_) (fun h2 => ?_)
    · have H := H.1 h2
      refine r_iconst dX0_loopAround_52 ?_
      refine r_iret rfl ⟨by decide, by decide⟩ dX0_loopAround_53 ?_
      exact H
    · have H := H.2 h2
      refine r_iload_n (k := 2) rfl rfl dX0_loopAround_22 ?_
      refine r_if_lt (tgt := 52) g3 dX0_loopAround_23 (by decide) (fun h3 => ?_) (fun h3 => ?_)
      · have H := H.1 h3
        refine r_iconst dX0_loopAround_52 ?_
        refine r_iret rfl ⟨by decide, by decide⟩ dX0_loopAround_53 ?_
        exact H
      · have H := H.2 h3
        refine r_aload_n (k := 0) rfl rfl dX0_loopAround_26 ?_
        refine r_getR (k := 0) (o' := o0) (i' := 1) ckX0 ho0 rfl (by decide) rfl rfl rfl fl_X0_9 dX0_loopAround_27 ?_
        refine r_iload_n (k := 2) rfl rfl dX0_loopAround_30 ?_
        obtain ⟨c4, H⟩ := H
        refine r_iald ho0 rfl rfl c4 dX0_loopAround_31 ?_
        refine r_bipush dX0_loopAround_32 (by decide) ?_
        refine r_icmp_ne (tgt := 39) (hM _ _ _) ⟨by decide, by decide⟩ dX0_loopAround_34 (by decide) (fun h5 => ?_) (fun h5 => ?_)
        · have H := H.1 h5
          refine r_aload_n (k := 0) rfl rfl dX0_loopAround_39 ?_
          refine r_getR (k := 1) (o' := o0) (i' := 2) ckX0 ho0 rfl (by decide) rfl rfl rfl fl_X0_15 dX0_loopAround_40 ?_
          refine r_iload_n (k := 2) rfl rfl dX0_loopAround_43 ?_
          refine r_iald ho0 rfl rfl c4 dX0_loopAround_44 ?_
          refine r_istore_n (ls' := [(3, vI (M o0 2 x3)), (0, vR o0 0), (2, vI x2), (4, vI x4)]) (hM _ _ _) rfl (by decide) rfl dX0_loopAround_45 ?_
          obtain ⟨c6, H⟩ := H
          refine r_iinc (k := 3) (ls' := [(4, vI (x4 + 1)), (3, vI (M o0 2 x3)), (0, vR o0 0), (2, vI x2)]) rfl c6 (by decide) rfl dX0_loopAround_46 ?_
          refine r_goto (tgt := 10) dX0_loopAround_49 (by decide) ?_
          exact sl_At.sub [2, 3, 1, 0] rfl H
        · have H := H.2 h5
          refine r_iload_n (k := 2) rfl rfl dX0_loopAround_37 ?_
          refine r_iret rfl g3 dX0_loopAround_38 ?_
          exact H
theorem eX0_loopAround {l : Launch} {M : sl_M} {Q : sl_R} {o0 : Nat} {x1 x2 : Int} (k : sl_At l mX0_loopAround 0 [(0, vR o0 0), (1, vI x1), (2, vI x2)] [] M Q) : sl_Runs l mX0_loopAround [vR o0 0, vI x1, vI x2] M Q := sl_Runs.of (ls := [(0, vR o0 0), (1, vI x1), (2, vI x2)]) rfl rfl (fun _ => rfl) (fun _ => Nat.le_of_ble_eq_true rfl) rfl (k)
theorem dX0_behind_0 : decode cX0_behind 0 = .ok (.iload_n 1, 1) := by decide +kernel
theorem dX0_behind_1 : decode cX0_behind 1 = .ok (.istore 4, 2) := by decide +kernel
theorem dX0_behind_3 : decode cX0_behind 3 = .ok (.iconst 0, 1) := by decide +kernel
theorem dX0_behind_4 : decode cX0_behind 4 = .ok (.istore 5, 2) := by decide +kernel
theorem dX0_behind_6 : decode cX0_behind 6 = .ok (.iload 5, 2) := by decide +kernel
theorem dX0_behind_8 : decode cX0_behind 8 = .ok (.bipush 40, 2) := by decide +kernel
theorem dX0_behind_10 : decode cX0_behind 10 = .ok (.if_icmp .ge 103, 3) := by decide +kernel
theorem dX0_behind_13 : decode cX0_behind 13 = .ok (.iload 4, 2) := by decide +kernel
theorem dX0_behind_15 : decode cX0_behind 15 = .ok (.aload_n 0, 1) := by decide +kernel
theorem dX0_behind_16 : decode cX0_behind 16 = .ok (.getfield 18, 3) := by decide +kernel
theorem dX0_behind_19 : decode cX0_behind 19 = .ok (.iload 4, 2) := by decide +kernel
theorem dX0_behind_21 : decode cX0_behind 21 = .ok (.iaload, 1) := by decide +kernel
theorem dX0_behind_22 : decode cX0_behind 22 = .ok (.iadd, 1) := by decide +kernel
theorem dX0_behind_23 : decode cX0_behind 23 = .ok (.iconst 1, 1) := by decide +kernel
theorem dX0_behind_24 : decode cX0_behind 24 = .ok (.iadd, 1) := by decide +kernel
theorem dX0_behind_25 : decode cX0_behind 25 = .ok (.istore 6, 2) := by decide +kernel
theorem dX0_behind_27 : decode cX0_behind 27 = .ok (.iload 6, 2) := by decide +kernel
theorem dX0_behind_29 : decode cX0_behind 29 = .ok (.iload_n 3, 1) := by decide +kernel
theorem dX0_behind_30 : decode cX0_behind 30 = .ok (.if_icmp .gt 40, 3) := by decide +kernel
theorem dX0_behind_33 : decode cX0_behind 33 = .ok (.aload_n 0, 1) := by decide +kernel
theorem dX0_behind_34 : decode cX0_behind 34 = .ok (.getfield 15, 3) := by decide +kernel
theorem dX0_behind_37 : decode cX0_behind 37 = .ok (.iload 6, 2) := by decide +kernel
theorem dX0_behind_39 : decode cX0_behind 39 = .ok (.iaload, 1) := by decide +kernel
theorem dX0_behind_40 : decode cX0_behind 40 = .ok (.aload_n 0, 1) := by decide +kernel
theorem dX0_behind_41 : decode cX0_behind 41 = .ok (.getfield 15, 3) := by decide +kernel
theorem dX0_behind_44 : decode cX0_behind 44 = .ok (.iload 4, 2) := by decide +kernel
theorem dX0_behind_46 : decode cX0_behind 46 = .ok (.iaload, 1) := by decide +kernel
theorem dX0_behind_47 : decode cX0_behind 47 = .ok (.if_icmp .ne 23, 3) := by decide +kernel
theorem dX0_behind_50 : decode cX0_behind 50 = .ok (.aload_n 0, 1) := by decide +kernel
theorem dX0_behind_51 : decode cX0_behind 51 = .ok (.getfield 21, 3) := by decide +kernel
theorem dX0_behind_54 : decode cX0_behind 54 = .ok (.iload 6, 2) := by decide +kernel
theorem dX0_behind_56 : decode cX0_behind 56 = .ok (.iaload, 1) := by decide +kernel
theorem dX0_behind_57 : decode cX0_behind 57 = .ok (.aload_n 0, 1) := by decide +kernel
theorem dX0_behind_58 : decode cX0_behind 58 = .ok (.getfield 21, 3) := by decide +kernel
theorem dX0_behind_61 : decode cX0_behind 61 = .ok (.iload 4, 2) := by decide +kernel
theorem dX0_behind_63 : decode cX0_behind 63 = .ok (.iaload, 1) := by decide +kernel
theorem dX0_behind_64 : decode cX0_behind 64 = .ok (.if_icmp .ne 6, 3) := by decide +kernel
theorem dX0_behind_67 : decode cX0_behind 67 = .ok (.iload 6, 2) := by decide +kernel
theorem dX0_behind_69 : decode cX0_behind 69 = .ok (.ireturn, 1) := by decide +kernel
theorem dX0_behind_70 : decode cX0_behind 70 = .ok (.aload_n 0, 1) := by decide +kernel
theorem dX0_behind_71 : decode cX0_behind 71 = .ok (.getfield 15, 3) := by decide +kernel
theorem dX0_behind_74 : decode cX0_behind 74 = .ok (.iload 4, 2) := by decide +kernel
theorem dX0_behind_76 : decode cX0_behind 76 = .ok (.iaload, 1) := by decide +kernel
theorem dX0_behind_77 : decode cX0_behind 77 = .ok (.istore 4, 2) := by decide +kernel
theorem dX0_behind_79 : decode cX0_behind 79 = .ok (.iload 4, 2) := by decide +kernel
theorem dX0_behind_81 : decode cX0_behind 81 = .ok (.iload_n 2, 1) := by decide +kernel
theorem dX0_behind_82 : decode cX0_behind 82 = .ok (.if_icmp .lt 8, 3) := by decide +kernel
theorem dX0_behind_85 : decode cX0_behind 85 = .ok (.iload 4, 2) := by decide +kernel
theorem dX0_behind_87 : decode cX0_behind 87 = .ok (.ifCond .ge 5, 3) := by decide +kernel
theorem dX0_behind_90 : decode cX0_behind 90 = .ok (.iconst (-1), 1) := by decide +kernel
theorem dX0_behind_91 : decode cX0_behind 91 = .ok (.ireturn, 1) := by decide +kernel
theorem dX0_behind_92 : decode cX0_behind 92 = .ok (.aload_n 0, 1) := by decide +kernel
theorem dX0_behind_93 : decode cX0_behind 93 = .ok (.getfield 9, 3) := by decide +kernel
theorem dX0_behind_96 : decode cX0_behind 96 = .ok (.iload 4, 2) := by decide +kernel
theorem dX0_behind_98 : decode cX0_behind 98 = .ok (.iaload, 1) := by decide +kernel
theorem dX0_behind_99 : decode cX0_behind 99 = .ok (.bipush 6, 2) := by decide +kernel
theorem dX0_behind_101 : decode cX0_behind 101 = .ok (.if_icmp .ne 6, 3) := by decide +kernel
theorem dX0_behind_104 : decode cX0_behind 104 = .ok (.iload 4, 2) := by decide +kernel
theorem dX0_behind_106 : decode cX0_behind 106 = .ok (.ireturn, 1) := by decide +kernel
theorem dX0_behind_107 : decode cX0_behind 107 = .ok (.iinc 5 1, 3) := by decide +kernel
theorem dX0_behind_110 : decode cX0_behind 110 = .ok (.goto (-104), 3) := by decide +kernel
theorem dX0_behind_113 : decode cX0_behind 113 = .ok (.iconst (-1), 1) := by decide +kernel
theorem dX0_behind_114 : decode cX0_behind 114 = .ok (.ireturn, 1) := by decide +kernel
set_option maxHeartbeats 4000000 in
set_option maxRecDepth 10000 in
theorem vX0_behind_0 {l : Launch} {M : sl_M} {Q : sl_R} {o0 : Nat} {x1 x2 x3 : Int} (ho0 : sl_cls o0 = 0) (H : sl_RM M → sl_rg x1 → sl_rg x2 → sl_rg x3 → sl_At l mX0_behind 6 [(0, vR o0 0), (2, vI x2), (3, vI x3), (4, vI x1), (5, vI 0)] [] M Q) : sl_At l mX0_behind 0 [(0, vR o0 0), (1, vI x1), (2, vI x2), (3, vI x3)] [] M Q := by
  refine sl_At.in (fun hM hls => ?_)
  have g1 : sl_rg x1 := hls _ (List.mem_of_getElem? (i := 1) rfl)
  have g2 : sl_rg x2 := hls _ (List.mem_of_getElem? (i := 2) rfl)
  have g3 : sl_rg x3 := hls _ (List.mem_of_getElem? (i := 3) rfl)
  have H := H hM g1 g2 g3
  refine r_iload_n (k := 1) rfl rfl dX0_behind_0 ?_
  refine r_istore (ls' := [(4, vI x1), (0, vR o0 0), (1, vI x1), (2, vI x2), (3, vI x3)]) g1 (by decide) rfl dX0_behind_1 ?_
  refine r_iconst dX0_behind_3 ?_
  refine r_istore (ls' := [(5, vI 0), (4, vI x1), (0, vR o0 0), (1, vI x1), (2, vI x2), (3, vI x3)]) ⟨by decide, by decide⟩ (by decide) rfl dX0_behind_4 ?_
  exact sl_At.sub [2, 4, 5, 1, 0] rfl H
set_option maxHeartbeats 4000000 in
set_option maxRecDepth 10000 in
theorem vX0_behind_6 {l : Launch} {M : sl_M} {Q : sl_R} {o0 : Nat} {x2 x3 x4 x5 : Int} (ho0 : sl_cls o0 = 0) (H : sl_RM M → sl_rg x2 → sl_rg x3 → sl_rg x4 → sl_rg x5 → ((40 ≤ x5) → Q (some (vI (-1))) M) ∧ ((¬ (40 ≤ x5)) → (0 ≤ x4 ∧ x4 < 40) ∧ (sl_rg (x4 + (M o0 3 x4) + 1)) ∧ (∀ y4 : Int, y4 = x4 + (M o0 3 x4) + 1 → ((x3 < y4) → sl_At l mX0_behind 70 [(0, vR o0 0), (2, vI x2), (3, vI x3), (4, vI x4), (5, vI x5)] [] M Q) ∧ ((¬ (x3 < y4)) → (0 ≤ y4 ∧ y4 < 40) ∧ ((M o0 2 y4 ≠ M o0 2 x4) → sl_At l mX0_behind 70 [(0, vR o0 0), (2, vI x2), (3, vI x3), (4, vI x4), (5, vI x5)] [] M Q) ∧ ((¬ (M o0 2 y4 ≠ M o0 2 x4)) → ((M o0 4 y4 ≠ M o0 4 x4) → sl_At l mX0_behind 70 [(0, vR o0 0), (2, vI x2), (3, vI x3), (4, vI x4), (5, vI x5)] [] M Q) ∧ ((¬ (M o0 4 y4 ≠ M o0 4 x4)) → Q (some (vI y4)) M)))))) : sl_At l mX0_behind 6 [(0, vR o0 0), (2, vI x2), (3, vI x3), (4, vI x4), (5, vI x5)] [] M Q := by
  refine sl_At.in (fun hM hls => ?_)
  have g2 : sl_rg x2 := hls _ (List.mem_of_getElem? (i := 1) rfl)
  have g3 : sl_rg x3 := hls _ (List.mem_of_getElem? (i := 2) rfl)
  have g4 : sl_rg x4 := hls _ (List.mem_of_getElem? (i := 3) rfl)
  have g5 : sl_rg x5 := hls _ (List.mem_of_getElem? (i := 4) rfl)
  have H := H hM g2 g3 g4 g5
  refine r_iload (k := 4) rfl dX0_behind_6 ?_
  refine r_bipush dX0_behind_8 (by decide) ?_
  refine r_icmp_ge (tgt := 113) g5 ⟨by decide, by decide⟩ dX0_behind_10 (by decide) (fun h1 => ?_) (fun h1 => ?_)
  · have H := H.1 h1
    refine r_iconst dX0_behind_113 ?_
    refine r_iret rfl ⟨by decide, by decide⟩ dX0_behind_114 ?_
    exact H
  · have H := H.2 h1
    refine r_iload (k := 3) rfl dX0_behind_13 ?_
    refine r_aload_n (k := 0) rfl rfl dX0_behind_15 ?_
    refine r_getR (k := 2) (o' := o0) (i' := 3) ckX0 ho0 rfl (by decide) rfl rfl rfl fl_X0_18 dX0_behind_16 ?_
    refine r_iload (k := 3) rfl dX0_behind_19 ?_
    obtain ⟨c2, H⟩ := H
    refine r_iald ho0 rfl rfl c2 dX0_behind_21 ?_
    refine r_iadd dX0_behind_22 ?_
    refine r_iconst dX0_behind_23 ?_
    refine r_iadd dX0_behind_24 ?_
    obtain ⟨c3, H⟩ := H
    refine r_nm (fun y4 fy4 => ?_)
    have H := H y4 fy4
    have gy4 : sl_rg y4 := by rw [fy4]; exact c3
    refine r_istore (ls' := [(6, vI y4), (0, vR o0 0), (2, vI x2), (3, vI x3), (4, vI x4), (5, vI x5)]) gy4 (by decide) rfl dX0_behind_25 ?_
    refine r_iload (k := 0) rfl dX0_behind_27 ?_
    refine r_iload_n (k := 3) rfl rfl dX0_behind_29 ?_
    refine r_icmp_gt (tgt := 70) gy4 g3 dX0_behind_30 (by decide) (fun h5 => ?_) (fun h5 => ?_)
    · have H := H.1 h5
      exact sl_At.sub [1, 2, 3, 4, 5] rfl H
    · have H := H.2 h5
      refine r_aload_n (k := 1) rfl rfl dX0_behind_33 ?_
      refine r_getR (k := 1) (o' := o0) (i' := 2) ckX0 ho0 rfl (by decide) rfl rfl rfl fl_X0_15 dX0_behind_34 ?_
      refine r_iload (k := 0) rfl dX0_behind_37 ?_
      obtain ⟨c6, H⟩ := H
      refine r_iald ho0 rfl rfl c6 dX0_behind_39 ?_
      refine r_aload_n (k := 1) rfl rfl dX0_behind_40 ?_
      refine r_getR (k := 1) (o' := o0) (i' := 2) ckX0 ho0 rfl (by decide) rfl rfl rfl fl_X0_15 dX0_behind_41 ?_
      refine r_iload (k := 4) rfl dX0_behind_44 ?_
      refine r_iald ho0 rfl rfl c2 dX0_behind_46 ?_
      refine r_icmp_ne (tgt := 70) (hM _ _ _) (hM _ _ _) dX0_behind_47 (by decide) (fun h7 => ?_) (fun h7 => ?_)
      · have H := H.1 h7
        exact sl_At.sub [1, 2, 3, 4, 5] rfl H
      · have H := H.2 h7
        refine r_aload_n (k := 1) rfl rfl dX0_behind_50 ?_
        refine r_getR (k := 3) (o' := o0) (i' := 4) ckX0 ho0 rfl (by decide) rfl rfl rfl fl_X0_21 dX0_behind_51 ?_
        refine r_iload (k := 0) rfl dX0_behind_54 ?_
        refine r_iald ho0 rfl rfl c6 dX0_behind_56 ?_
        refine r_aload_n (k := 1) rfl rfl dX0_behind_57 ?_
        refine r_getR (k := 3) (o' := o0) (i' := 4) ckX0 ho0 rfl (by decide) rfl rfl rfl fl_X0_21 dX0_behind_58 ?_
        refine r_iload (k := 4) rfl dX0_behind_61 ?_
        refine r_iald ho0 rfl rfl c2 dX0_behind_63 ?_
        refine r_icmp_ne (tgt := 70) (hM _ _ _) (hM _ _ _) dX0_behind_64 (by decide) (fun h8 => ?_) (fun h8 => ?_)
        · have H := H.1 h8
          exact sl_At.sub [1, 2, 3, 4, 5] rfl H
        · have H := H.2 h8
          refine r_iload (k := 0) rfl dX0_behind_67 ?_
          refine r_iret rfl gy4 dX0_behind_69 ?_
          exact H
set_option maxHeartbeats 4000000 in
set_option maxRecDepth 10000 in
theorem vX0_behind_70 {l : Launch} {M : sl_M} {Q : sl_R} {o0 : Nat} {x2 x3 x4 x5 : Int} (ho0 : sl_cls o0 = 0) (H : sl_RM M → sl_rg x2 → sl_rg x3 → sl_rg x4 → sl_rg x5 → (0 ≤ x4 ∧ x4 < 40) ∧ ((M o0 2 x4 < x2) → Q (some (vI (-1))) M) ∧ ((¬ (M o0 2 x4 < x2)) → ((0 ≤ M o0 2 x4) → (0 ≤ M o0 2 x4 ∧ M o0 2 x4 < 40) ∧ ((M o0 1 (M o0 2 x4) ≠ 6) → (sl_rg (x5 + 1)) ∧ sl_At l mX0_behind 6 [(0, vR o0 0), (2, vI x2), (3, vI x3), (4, vI (M o0 2 x4)), (5, vI (x5 + 1))] [] M Q) ∧ ((¬ (M o0 1 (M o0 2 x4) ≠ 6)) → Q (some (vI (M o0 2 x4))) M)) ∧ ((¬ (0 ≤ M o0 2 x4)) → Q (some (vI (-1))) M))) : sl_At l mX0_behind 70 [(0, vR o0 0), (2, vI x2), (3, vI x3), (4, vI x4), (5, vI x5)] [] M Q := by
  refine sl_At.in (fun hM hls => ?_)
  have g2 : sl_rg x2 := hls _ (List.mem_of_getElem? (i := 1) rfl)
  have g3 : sl_rg x3 := hls _ (List.mem_of_getElem? (i := 2) rfl)
  have g4 : sl_rg x4 := hls _ (List.mem_of_getElem? (i := 3) rfl)
  have g5 : sl_rg x5 := hls _ (List.mem_of_getElem? (i := 4) rfl)
  have H := H hM g2 g3 g4 g5
  refine r_aload_n (k := 0) rfl rfl dX0_behind_70 ?_
  refine r_getR (k := 1) (o' := o0) (i' := 2) ckX0 ho0 rfl (by decide) rfl rfl rfl fl_X0_15 dX0_behind_71 ?_
  refine r_iload (k := 3) rfl dX0_behind_74 ?_
  obtain ⟨c1, H⟩ := H
  refine r_iald ho0 rfl rfl c1 dX0_behind_76 ?_
  refine r_istore (ls' := [(4, vI (M o0 2 x4)), (0, vR o0 0), (2, vI x2), (3, vI x3), (5, vI x5)]) (hM _ _ _) (by decide) rfl dX0_behind_77 ?_
  refine r_iload (k := 0) rfl dX0_behind_79 ?_
  refine r_iload_n (k := 2) rfl rfl dX0_behind_81 ?_
  refine r_icmp_lt (tgt := 90) (hM _ _ _) g2 dX0_behind_82 (by decide) (fun h2 => ?_) (fun h2 => ?_)
  · have H := H.1 h2
    refine r_iconst dX0_behind_90 ?_
    refine r_iret rfl ⟨by decide, by decide⟩ dX0_behind_91 ?_
    exact H
  · have H := H.2 h2
    refine r_iload (k := 0) rfl dX0_behind_85 ?_
    refine r_if_ge (tgt := 92) (hM _ _ _) dX0_behind_87 (by decide) (fun h3 => ?_) (fun h3 => ?_)
    · have H := H.1 h3
      refine r_aload_n (k := 1) rfl rfl dX0_behind_92 ?_
      refine r_getR (k := 0) (o' := o0) (i' := 1) ckX0 ho0 rfl (by decide) rfl rfl rfl fl_X0_9 dX0_behind_93 ?_
      refine r_iload (k := 0) rfl dX0_behind_96 ?_
      obtain ⟨c4, H⟩ := H
      refine r_iald ho0 rfl rfl c4 dX0_behind_98 ?_
      refine r_bipush dX0_behind_99 (by decide) ?_
      refine r_icmp_ne (tgt := 107) (hM _ _ _) ⟨by decide, by decide⟩ dX0_behind_101 (by decide) (fun h5 => ?_) (fun h5 => ?_)
      · have H := H.1 h5
        obtain ⟨c6, H⟩ := H
        refine r_iinc (k := 4) (ls' := [(5, vI (x5 + 1)), (4, vI (M o0 2 x4)), (0, vR o0 0), (2, vI x2), (3, vI x3)]) rfl c6 (by decide) rfl dX0_behind_107 ?_
        refine r_goto (tgt := 6) dX0_behind_110 (by decide) ?_
        exact sl_At.sub [2, 3, 4, 1, 0] rfl H
      · have H := H.2 h5
        refine r_iload (k := 0) rfl dX0_behind_104 ?_
        refine r_iret rfl (hM _ _ _) dX0_behind_106 ?_
        exact H
    · have H := H.2 h3
      refine r_iconst dX0_behind_90 ?_
      refine r_iret rfl ⟨by decide, by decide⟩ dX0_behind_91 ?_
      exact H
theorem eX0_behind {l : Launch} {M : sl_M} {Q : sl_R} {o0 : Nat} {x1 x2 x3 : Int} (k : sl_At l mX0_behind 0 [(0, vR o0 0), (1, vI x1), (2, vI x2), (3, vI x3)] [] M Q) : sl_Runs l mX0_behind [vR o0 0, vI x1, vI x2, vI x3] M Q := sl_Runs.of (ls := [(0, vR o0 0), (1, vI x1), (2, vI x2), (3, vI x3)]) rfl rfl (fun _ => rfl) (fun _ => Nat.le_of_ble_eq_true rfl) rfl (k)
theorem dX0_target_0 : decode cX0_target 0 = .ok (.iload_n 2, 1) := by decide +kernel
theorem dX0_target_1 : decode cX0_target 1 = .ok (.iconst 1, 1) := by decide +kernel
theorem dX0_target_2 : decode cX0_target 2 = .ok (.if_icmp .ne 12, 3) := by decide +kernel
theorem dX0_target_5 : decode cX0_target 5 = .ok (.aload_n 0, 1) := by decide +kernel
theorem dX0_target_6 : decode cX0_target 6 = .ok (.iload_n 1, 1) := by decide +kernel
theorem dX0_target_7 : decode cX0_target 7 = .ok (.iload_n 3, 1) := by decide +kernel
theorem dX0_target_8 : decode cX0_target 8 = .ok (.iload 4, 2) := by decide +kernel
theorem dX0_target_10 : decode cX0_target 10 = .ok (.invokevirtual 90, 3) := by decide +kernel
theorem dX0_target_13 : decode cX0_target 13 = .ok (.ireturn, 1) := by decide +kernel
theorem dX0_target_14 : decode cX0_target 14 = .ok (.iload_n 2, 1) := by decide +kernel
theorem dX0_target_15 : decode cX0_target 15 = .ok (.bipush 8, 2) := by decide +kernel
theorem dX0_target_17 : decode cX0_target 17 = .ok (.if_icmp .ne 7, 3) := by decide +kernel
theorem dX0_target_20 : decode cX0_target 20 = .ok (.iconst (-1), 1) := by decide +kernel
theorem dX0_target_21 : decode cX0_target 21 = .ok (.goto 9, 3) := by decide +kernel
theorem dX0_target_24 : decode cX0_target 24 = .ok (.aload_n 0, 1) := by decide +kernel
theorem dX0_target_25 : decode cX0_target 25 = .ok (.iload_n 1, 1) := by decide +kernel
theorem dX0_target_26 : decode cX0_target 26 = .ok (.iload_n 3, 1) := by decide +kernel
theorem dX0_target_27 : decode cX0_target 27 = .ok (.invokevirtual 93, 3) := by decide +kernel
theorem dX0_target_30 : decode cX0_target 30 = .ok (.istore 5, 2) := by decide +kernel
theorem dX0_target_32 : decode cX0_target 32 = .ok (.iload 5, 2) := by decide +kernel
theorem dX0_target_34 : decode cX0_target 34 = .ok (.iconst (-1), 1) := by decide +kernel
theorem dX0_target_35 : decode cX0_target 35 = .ok (.if_icmp .ne 6, 3) := by decide +kernel
theorem dX0_target_38 : decode cX0_target 38 = .ok (.iload_n 2, 1) := by decide +kernel
theorem dX0_target_39 : decode cX0_target 39 = .ok (.ineg, 1) := by decide +kernel
theorem dX0_target_40 : decode cX0_target 40 = .ok (.ireturn, 1) := by decide +kernel
theorem dX0_target_41 : decode cX0_target 41 = .ok (.iload_n 2, 1) := by decide +kernel
theorem dX0_target_42 : decode cX0_target 42 = .ok (.iconst 2, 1) := by decide +kernel
theorem dX0_target_43 : decode cX0_target 43 = .ok (.if_icmp .ne 15, 3) := by decide +kernel
theorem dX0_target_46 : decode cX0_target 46 = .ok (.aload_n 0, 1) := by decide +kernel
theorem dX0_target_47 : decode cX0_target 47 = .ok (.iload 5, 2) := by decide +kernel
theorem dX0_target_49 : decode cX0_target 49 = .ok (.iload_n 3, 1) := by decide +kernel
theorem dX0_target_50 : decode cX0_target 50 = .ok (.iload 4, 2) := by decide +kernel
theorem dX0_target_52 : decode cX0_target 52 = .ok (.invokevirtual 90, 3) := by decide +kernel
theorem dX0_target_55 : decode cX0_target 55 = .ok (.goto 5, 3) := by decide +kernel
theorem dX0_target_58 : decode cX0_target 58 = .ok (.iload 5, 2) := by decide +kernel
theorem dX0_target_60 : decode cX0_target 60 = .ok (.ireturn, 1) := by decide +kernel
set_option maxHeartbeats 4000000 in
set_option maxRecDepth 10000 in
theorem vX0_target_0 {l : Launch} {M : sl_M} {Q : sl_R} {o0 : Nat} {x1 x2 x3 x4 : Int} (ho0 : sl_cls o0 = 0) (H : sl_RM M → sl_rg x1 → sl_rg x2 → sl_rg x3 → sl_rg x4 → ((x2 ≠ 1) → ((x2 ≠ 8) → sl_RI l mX0_loopAround [vR o0 0, vI x1, vI x3] M (fun y4 M3 => sl_At l mX0_target 30 [(0, vR o0 0), (2, vI x2), (3, vI x3), (4, vI x4)] [vI y4] M3 Q)) ∧ ((¬ (x2 ≠ 8)) → sl_At l mX0_target 30 [(0, vR o0 0), (2, vI x2), (3, vI x3), (4, vI x4)] [vI (-1)] M Q)) ∧ ((¬ (x2 ≠ 1)) → sl_RI l mX0_behind [vR o0 0, vI x1, vI x3, vI x4] M (fun y6 M5 => Q (some (vI y6)) M5))) : sl_At l mX0_target 0 [(0, vR o0 0), (1, vI x1), (2, vI x2), (3, vI x3), (4, vI x4)] [] M Q := by
  refine sl_At.in (fun hM hls => ?_)
  have g1 : sl_rg x1 := hls _ (List.mem_of_getElem? (i := 1) rfl)
  have g2 : sl_rg x2 := hls _ (List.mem_of_getElem? (i := 2) rfl)
  have g3 : sl_rg x3 := hls _ (List.mem_of_getElem? (i := 3) rfl)
  have g4 : sl_rg x4 := hls _ (List.mem_of_getElem? (i := 4) rfl)
  have H := H hM g1 g2 g3 g4
  refine r_iload_n (k := 2) rfl rfl dX0_target_0 ?_
  refine r_iconst dX0_target_1 ?_
  refine r_icmp_ne (tgt := 14) g2 ⟨by decide, by decide⟩ dX0_target_2 (by decide) (fun h1 => ?_) (fun h1 => ?_)
  · have H := H.1 h1
    refine r_iload_n (k := 2) rfl rfl dX0_target_14 ?_
    refine r_bipush dX0_target_15 (by decide) ?_
    refine r_icmp_ne (tgt := 24) g2 ⟨by decide, by decide⟩ dX0_target_17 (by decide) (fun h2 => ?_) (fun h2 => ?_)
    · have H := H.1 h2
      refine r_aload_n (k := 0) rfl rfl dX0_target_24 ?_
      refine r_iload_n (k := 1) rfl rfl dX0_target_25 ?_
      refine r_iload_n (k := 3) rfl rfl dX0_target_26 ?_
      refine r_callV (g := mX0_loopAround) ckX0 ho0 rfl rfl rfl mkX0_loopAround mvX0_loopAround ml_X0_93 ⟨by decide, by decide⟩ rfl (Nat.le_of_ble_eq_true rfl) rfl (ok_i g1 (ok_i g3 ok_n)) dX0_target_27 (sl_afterI (sl_RI.mono (fun y4 M3 gy4 hM3 H => ?_) H))
      exact sl_At.sub [0, 2, 3, 4] rfl H
    · have H := H.2 h2
      refine r_iconst dX0_target_20 ?_
      refine r_goto (tgt := 30) dX0_target_21 (by decide) ?_
      exact sl_At.sub [0, 2, 3, 4] rfl H
  · have H := H.2 h1
    refine r_aload_n (k := 0) rfl rfl dX0_target_5 ?_
    refine r_iload_n (k := 1) rfl rfl dX0_target_6 ?_
    refine r_iload_n (k := 3) rfl rfl dX0_target_7 ?_
    refine r_iload (k := 4) rfl dX0_target_8 ?_
    refine r_callV (g := mX0_behind) ckX0 ho0 rfl rfl rfl mkX0_behind mvX0_behind ml_X0_90 ⟨by decide, by decide⟩ rfl (Nat.le_of_ble_eq_true rfl) rfl (ok_i g1 (ok_i g3 (ok_i g4 ok_n))) dX0_target_10 (sl_afterI (sl_RI.mono (fun y6 M5 gy6 hM5 H => ?_) H))
    refine r_iret rfl gy6 dX0_target_13 ?_
    exact H
set_option maxHeartbeats 4000000 in
set_option maxRecDepth 10000 in
theorem vX0_target_30 {l : Launch} {M : sl_M} {Q : sl_R} {o0 : Nat} {x2 x3 x4 s0 : Int} (ho0 : sl_cls o0 = 0) (gs0 : sl_rg s0) (H : sl_RM M → sl_rg x2 → sl_rg x3 → sl_rg x4 → ((s0 ≠ (-1)) → ((x2 ≠ 2) → Q (some (vI s0)) M) ∧ ((¬ (x2 ≠ 2)) → sl_RI l mX0_behind [vR o0 0, vI s0, vI x3, vI x4] M (fun y4 M3 => Q (some (vI y4)) M3))) ∧ ((¬ (s0 ≠ (-1))) → (sl_rg (-x2)) ∧ Q (some (vI (-x2))) M)) : sl_At l mX0_target 30 [(0, vR o0 0), (2, vI x2), (3, vI x3), (4, vI x4)] [vI s0] M Q := by
  refine sl_At.in (fun hM hls => ?_)
  have g2 : sl_rg x2 := hls _ (List.mem_of_getElem? (i := 1) rfl)
  have g3 : sl_rg x3 := hls _ (List.mem_of_getElem? (i := 2) rfl)
  have g4 : sl_rg x4 := hls _ (List.mem_of_getElem? (i := 3) rfl)
  have H := H hM g2 g3 g4
  refine r_istore (ls' := [(5, vI s0), (0, vR o0 0), (2, vI x2), (3, vI x3), (4, vI x4)]) gs0 (by decide) rfl dX0_target_30 ?_
  refine r_iload (k := 0) rfl dX0_target_32 ?_
  refine r_iconst dX0_target_34 ?_
  refine r_icmp_ne (tgt := 41) gs0 ⟨by decide, by decide⟩ dX0_target_35 (by decide) (fun h1 => ?_) (fun h1 => ?_)
  · have H := H.1 h1
    refine r_iload_n (k := 2) rfl rfl dX0_target_41 ?_
    refine r_iconst dX0_target_42 ?_
    refine r_icmp_ne (tgt := 58) g2 ⟨by decide, by decide⟩ dX0_target_43 (by decide) (fun h2 => ?_) (fun h2 => ?_)
    · have H := H.1 h2
      refine r_iload (k := 0) rfl dX0_target_58 ?_
      refine r_iret rfl gs0 dX0_target_60 ?_
      exact H
    · have H := H.2 h2
      refine r_aload_n (k := 1) rfl rfl dX0_target_46 ?_
      refine r_iload (k := 0) rfl dX0_target_47 ?_
      refine r_iload_n (k := 3) rfl rfl dX0_target_49 ?_
      refine r_iload (k := 4) rfl dX0_target_50 ?_
      refine r_callV (g := mX0_behind) ckX0 ho0 rfl rfl rfl mkX0_behind mvX0_behind ml_X0_90 ⟨by decide, by decide⟩ rfl (Nat.le_of_ble_eq_true rfl) rfl (ok_i gs0 (ok_i g3 (ok_i g4 ok_n))) dX0_target_52 (sl_afterI (sl_RI.mono (fun y4 M3 gy4 hM3 H => ?_) H))
      refine r_goto (tgt := 60) dX0_target_55 (by decide) ?_
      refine r_iret rfl gy4 dX0_target_60 ?_
      exact H
  · have H := H.2 h1
    refine r_iload_n (k := 2) rfl rfl dX0_target_38 ?_
    refine r_ineg dX0_target_39 ?_
    obtain ⟨c5, H⟩ := H
    refine r_iret rfl c5 dX0_target_40 ?_
    exact H
theorem eX0_target {l : Launch} {M : sl_M} {Q : sl_R} {o0 : Nat} {x1 x2 x3 x4 : Int} (k : sl_At l mX0_target 0 [(0, vR o0 0), (1, vI x1), (2, vI x2), (3, vI x3), (4, vI x4)] [] M Q) : sl_Runs l mX0_target [vR o0 0, vI x1, vI x2, vI x3, vI x4] M Q := sl_Runs.of (ls := [(0, vR o0 0), (1, vI x1), (2, vI x2), (3, vI x3), (4, vI x4)]) rfl rfl (fun _ => rfl) (fun _ => Nat.le_of_ble_eq_true rfl) rfl (k)
theorem dX0_enter_0 : decode cX0_enter 0 = .ok (.iload_n 1, 1) := by decide +kernel
theorem dX0_enter_1 : decode cX0_enter 1 = .ok (.iconst 1, 1) := by decide +kernel
theorem dX0_enter_2 : decode cX0_enter 2 = .ok (.iadd, 1) := by decide +kernel
theorem dX0_enter_3 : decode cX0_enter 3 = .ok (.istore 5, 2) := by decide +kernel
theorem dX0_enter_5 : decode cX0_enter 5 = .ok (.iload 5, 2) := by decide +kernel
theorem dX0_enter_7 : decode cX0_enter 7 = .ok (.iload_n 1, 1) := by decide +kernel
theorem dX0_enter_8 : decode cX0_enter 8 = .ok (.aload_n 0, 1) := by decide +kernel
theorem dX0_enter_9 : decode cX0_enter 9 = .ok (.getfield 18, 3) := by decide +kernel
theorem dX0_enter_12 : decode cX0_enter 12 = .ok (.iload_n 1, 1) := by decide +kernel
theorem dX0_enter_13 : decode cX0_enter 13 = .ok (.iaload, 1) := by decide +kernel
theorem dX0_enter_14 : decode cX0_enter 14 = .ok (.iadd, 1) := by decide +kernel
theorem dX0_enter_15 : decode cX0_enter 15 = .ok (.if_icmp .gt 43, 3) := by decide +kernel
theorem dX0_enter_18 : decode cX0_enter 18 = .ok (.iload 5, 2) := by decide +kernel
theorem dX0_enter_20 : decode cX0_enter 20 = .ok (.aload_n 0, 1) := by decide +kernel
theorem dX0_enter_21 : decode cX0_enter 21 = .ok (.getfield 45, 3) := by decide +kernel
theorem dX0_enter_24 : decode cX0_enter 24 = .ok (.if_icmp .ge 34, 3) := by decide +kernel
theorem dX0_enter_27 : decode cX0_enter 27 = .ok (.aload_n 0, 1) := by decide +kernel
theorem dX0_enter_28 : decode cX0_enter 28 = .ok (.getfield 21, 3) := by decide +kernel
theorem dX0_enter_31 : decode cX0_enter 31 = .ok (.iload 5, 2) := by decide +kernel
theorem dX0_enter_33 : decode cX0_enter 33 = .ok (.iaload, 1) := by decide +kernel
theorem dX0_enter_34 : decode cX0_enter 34 = .ok (.iload_n 2, 1) := by decide +kernel
theorem dX0_enter_35 : decode cX0_enter 35 = .ok (.if_icmp .ne 6, 3) := by decide +kernel
theorem dX0_enter_38 : decode cX0_enter 38 = .ok (.iload 5, 2) := by decide +kernel
theorem dX0_enter_40 : decode cX0_enter 40 = .ok (.ireturn, 1) := by decide +kernel
theorem dX0_enter_41 : decode cX0_enter 41 = .ok (.iload 5, 2) := by decide +kernel
theorem dX0_enter_43 : decode cX0_enter 43 = .ok (.aload_n 0, 1) := by decide +kernel
theorem dX0_enter_44 : decode cX0_enter 44 = .ok (.getfield 18, 3) := by decide +kernel
theorem dX0_enter_47 : decode cX0_enter 47 = .ok (.iload 5, 2) := by decide +kernel
theorem dX0_enter_49 : decode cX0_enter 49 = .ok (.iaload, 1) := by decide +kernel
theorem dX0_enter_50 : decode cX0_enter 50 = .ok (.iconst 1, 1) := by decide +kernel
theorem dX0_enter_51 : decode cX0_enter 51 = .ok (.iadd, 1) := by decide +kernel
theorem dX0_enter_52 : decode cX0_enter 52 = .ok (.iadd, 1) := by decide +kernel
theorem dX0_enter_53 : decode cX0_enter 53 = .ok (.istore 5, 2) := by decide +kernel
theorem dX0_enter_55 : decode cX0_enter 55 = .ok (.goto (-50), 3) := by decide +kernel
theorem dX0_enter_58 : decode cX0_enter 58 = .ok (.aload_n 0, 1) := by decide +kernel
theorem dX0_enter_59 : decode cX0_enter 59 = .ok (.getfield 9, 3) := by decide +kernel
theorem dX0_enter_62 : decode cX0_enter 62 = .ok (.iload_n 1, 1) := by decide +kernel
theorem dX0_enter_63 : decode cX0_enter 63 = .ok (.iaload, 1) := by decide +kernel
theorem dX0_enter_64 : decode cX0_enter 64 = .ok (.bipush 6, 2) := by decide +kernel
theorem dX0_enter_66 : decode cX0_enter 66 = .ok (.if_icmp .ne 11, 3) := by decide +kernel
theorem dX0_enter_69 : decode cX0_enter 69 = .ok (.iload_n 2, 1) := by decide +kernel
theorem dX0_enter_70 : decode cX0_enter 70 = .ok (.ifCond .ne 7, 3) := by decide +kernel
theorem dX0_enter_73 : decode cX0_enter 73 = .ok (.iload_n 1, 1) := by decide +kernel
theorem dX0_enter_74 : decode cX0_enter 74 = .ok (.goto 11, 3) := by decide +kernel
theorem dX0_enter_77 : decode cX0_enter 77 = .ok (.aload_n 0, 1) := by decide +kernel
theorem dX0_enter_78 : decode cX0_enter 78 = .ok (.iload_n 1, 1) := by decide +kernel
theorem dX0_enter_79 : decode cX0_enter 79 = .ok (.iload_n 3, 1) := by decide +kernel
theorem dX0_enter_80 : decode cX0_enter 80 = .ok (.iload 4, 2) := by decide +kernel
theorem dX0_enter_82 : decode cX0_enter 82 = .ok (.invokevirtual 90, 3) := by decide +kernel
theorem dX0_enter_85 : decode cX0_enter 85 = .ok (.ireturn, 1) := by decide +kernel
set_option maxHeartbeats 4000000 in
set_option maxRecDepth 10000 in
theorem vX0_enter_0 {l : Launch} {M : sl_M} {Q : sl_R} {o0 : Nat} {x1 x2 x3 x4 : Int} (ho0 : sl_cls o0 = 0) (H : sl_RM M → sl_rg x1 → sl_rg x2 → sl_rg x3 → sl_rg x4 → (sl_rg (x1 + 1)) ∧ (∀ y2 : Int, y2 = x1 + 1 → sl_At l mX0_enter 5 [(0, vR o0 0), (1, vI x1), (2, vI x2), (3, vI x3), (4, vI x4), (5, vI y2)] [] M Q)) : sl_At l mX0_enter 0 [(0, vR o0 0), (1, vI x1), (2, vI x2), (3, vI x3), (4, vI x4)] [] M Q := by
  refine sl_At.in (fun hM hls => ?_)
  have g1 : sl_rg x1 := hls _ (List.mem_of_getElem? (i := 1) rfl)
  have g2 : sl_rg x2 := hls _ (List.mem_of_getElem? (i := 2) rfl)
  have g3 : sl_rg x3 := hls _ (List.mem_of_getElem? (i := 3) rfl)
  have g4 : sl_rg x4 := hls _ (List.mem_of_getElem? (i := 4) rfl)
  have H := H hM g1 g2 g3 g4
  refine r_iload_n (k := 1) rfl rfl dX0_enter_0 ?_
  refine r_iconst dX0_enter_1 ?_
  refine r_iadd dX0_enter_2 ?_
  obtain ⟨c1, H⟩ := H
  refine r_nm (fun y2 fy2 => ?_)
  have H := H y2 fy2
  have gy2 : sl_rg y2 := by rw [fy2]; exact c1
  refine r_istore (ls' := [(5, vI y2), (0, vR o0 0), (1, vI x1), (2, vI x2), (3, vI x3), (4, vI x4)]) gy2 (by decide) rfl dX0_enter_3 ?_
  exact sl_At.sub [1, 2, 3, 4, 5, 0] rfl H
set_option maxHeartbeats 4000000 in
set_option maxRecDepth 10000 in
theorem vX0_enter_5 {l : Launch} {M : sl_M} {Q : sl_R} {o0 : Nat} {x1 x2 x3 x4 x5 : Int} (ho0 : sl_cls o0 = 0) (H : sl_RM M → sl_rg x1 → sl_rg x2 → sl_rg x3 → sl_rg x4 → sl_rg x5 → (0 ≤ x1 ∧ x1 < 40) ∧ (sl_rg (x1 + (M o0 3 x1))) ∧ ((x1 + (M o0 3 x1) < x5) → sl_At l mX0_enter 58 [(0, vR o0 0), (1, vI x1), (2, vI x2), (3, vI x3), (4, vI x4)] [] M Q) ∧ ((¬ (x1 + (M o0 3 x1) < x5)) → ((M o0 0 11 ≤ x5) → sl_At l mX0_enter 58 [(0, vR o0 0), (1, vI x1), (2, vI x2), (3, vI x3), (4, vI x4)] [] M Q) ∧ ((¬ (M o0 0 11 ≤ x5)) → (0 ≤ x5 ∧ x5 < 40) ∧ ((M o0 4 x5 ≠ x2) → (sl_rg (x5 + (M o0 3 x5 + 1))) ∧ (∀ y8 : Int, y8 = x5 + (M o0 3 x5 + 1) → sl_At l mX0_enter 5 [(0, vR o0 0), (1, vI x1), (2, vI x2), (3, vI x3), (4, vI x4), (5, vI y8)] [] M Q)) ∧ ((¬ (M o0 4 x5 ≠ x2)) → Q (some (vI x5)) M)))) : sl_At l mX0_enter 5 [(0, vR o0 0), (1, vI x1), (2, vI x2), (3, vI x3), (4, vI x4), (5, vI x5)] [] M Q := by
  refine sl_At.in (fun hM hls => ?_)
  have g1 : sl_rg x1 := hls _ (List.mem_of_getElem? (i := 1) rfl)
  have g2 : sl_rg x2 := hls _ (List.mem_of_getElem? (i := 2) rfl)
  have g3 : sl_rg x3 := hls _ (List.mem_of_getElem? (i := 3) rfl)
  have g4 : sl_rg x4 := hls _ (List.mem_of_getElem? (i := 4) rfl)
  have g5 : sl_rg x5 := hls _ (List.mem_of_getElem? (i := 5) rfl)
  have H := H hM g1 g2 g3 g4 g5
  refine r_iload (k := 5) rfl dX0_enter_5 ?_
  refine r_iload_n (k := 1) rfl rfl dX0_enter_7 ?_
  refine r_aload_n (k := 0) rfl rfl dX0_enter_8 ?_
  refine r_getR (k := 2) (o' := o0) (i' := 3) ckX0 ho0 rfl (by decide) rfl rfl rfl fl_X0_18 dX0_enter_9 ?_
  refine r_iload_n (k := 1) rfl rfl dX0_enter_12 ?_
  obtain ⟨c1, H⟩ := H
  refine r_iald ho0 rfl rfl c1 dX0_enter_13 ?_
  refine r_iadd dX0_enter_14 ?_
  obtain ⟨c2, H⟩ := H
  refine r_icmp_gt (tgt := 58) g5 c2 dX0_enter_15 (by decide) (fun h3 => ?_) (fun h3 => ?_)
  · have H := H.1 h3
    exact sl_At.sub [0, 1, 2, 3, 4] rfl H
  · have H := H.2 h3
    refine r_iload (k := 5) rfl dX0_enter_18 ?_
    refine r_aload_n (k := 0) rfl rfl dX0_enter_20 ?_
    refine r_gI (k := 11) (kz := 11) rfl ckX0 ho0 rfl (by decide) rfl rfl fl_X0_45 dX0_enter_21 ?_
    refine r_icmp_ge (tgt := 58) g5 (hM _ _ _) dX0_enter_24 (by decide) (fun h4 => ?_) (fun h4 => ?_)
    · have H := H.1 h4
      exact sl_At.sub [0, 1, 2, 3, 4] rfl H
    · have H := H.2 h4
      refine r_aload_n (k := 0) rfl rfl dX0_enter_27 ?_
      refine r_getR (k := 3) (o' := o0) (i' := 4) ckX0 ho0 rfl (by decide) rfl rfl rfl fl_X0_21 dX0_enter_28 ?_
      refine r_iload (k := 5) rfl dX0_enter_31 ?_
      obtain ⟨c5, H⟩ := H
      refine r_iald ho0 rfl rfl c5 dX0_enter_33 ?_
      refine r_iload_n (k := 2) rfl rfl dX0_enter_34 ?_
      refine r_icmp_ne (tgt := 41) (hM _ _ _) g2 dX0_enter_35 (by decide) (fun h6 => ?_) (fun h6 => ?_)
      · have H := H.1 h6
        refine r_iload (k := 5) rfl dX0_enter_41 ?_
        refine r_aload_n (k := 0) rfl rfl dX0_enter_43 ?_
        refine r_getR (k := 2) (o' := o0) (i' := 3) ckX0 ho0 rfl (by decide) rfl rfl rfl fl_X0_18 dX0_enter_44 ?_
        refine r_iload (k := 5) rfl dX0_enter_47 ?_
        refine r_iald ho0 rfl rfl c5 dX0_enter_49 ?_
        refine r_iconst dX0_enter_50 ?_
        refine r_iadd dX0_enter_51 ?_
        refine r_iadd dX0_enter_52 ?_
        obtain ⟨c7, H⟩ := H
        refine r_nm (fun y8 fy8 => ?_)
        have H := H y8 fy8
        have gy8 : sl_rg y8 := by rw [fy8]; exact c7
        refine r_istore (ls' := [(5, vI y8), (0, vR o0 0), (1, vI x1), (2, vI x2), (3, vI x3), (4, vI x4)]) gy8 (by decide) rfl dX0_enter_53 ?_
        refine r_goto (tgt := 5) dX0_enter_55 (by decide) ?_
        exact sl_At.sub [1, 2, 3, 4, 5, 0] rfl H
      · have H := H.2 h6
        refine r_iload (k := 5) rfl dX0_enter_38 ?_
        refine r_iret rfl g5 dX0_enter_40 ?_
        exact H
set_option maxHeartbeats 4000000 in
set_option maxRecDepth 10000 in
theorem vX0_enter_58 {l : Launch} {M : sl_M} {Q : sl_R} {o0 : Nat} {x1 x2 x3 x4 : Int} (ho0 : sl_cls o0 = 0) (H : sl_RM M → sl_rg x1 → sl_rg x2 → sl_rg x3 → sl_rg x4 → (0 ≤ x1 ∧ x1 < 40) ∧ ((M o0 1 x1 ≠ 6) → sl_RI l mX0_behind [vR o0 0, vI x1, vI x3, vI x4] M (fun y4 M3 => Q (some (vI y4)) M3)) ∧ ((¬ (M o0 1 x1 ≠ 6)) → ((x2 ≠ 0) → sl_RI l mX0_behind [vR o0 0, vI x1, vI x3, vI x4] M (fun y7 M6 => Q (some (vI y7)) M6)) ∧ ((¬ (x2 ≠ 0)) → Q (some (vI x1)) M))) : sl_At l mX0_enter 58 [(0, vR o0 0), (1, vI x1), (2, vI x2), (3, vI x3), (4, vI x4)] [] M Q := by
  refine sl_At.in (fun hM hls => ?_)
  have g1 : sl_rg x1 := hls _ (List.mem_of_getElem? (i := 1) rfl)
  have g2 : sl_rg x2 := hls _ (List.mem_of_getElem? (i := 2) rfl)
  have g3 : sl_rg x3 := hls _ (List.mem_of_getElem? (i := 3) rfl)
  have g4 : sl_rg x4 := hls _ (List.mem_of_getElem? (i := 4) rfl)
  have H := H hM g1 g2 g3 g4
  refine r_aload_n (k := 0) rfl rfl dX0_enter_58 ?_
  refine r_getR (k := 0) (o' := o0) (i' := 1) ckX0 ho0 rfl (by decide) rfl rfl rfl fl_X0_9 dX0_enter_59 ?_
  refine r_iload_n (k := 1) rfl rfl dX0_enter_62 ?_
  obtain ⟨c1, H⟩ := H
  refine r_iald ho0 rfl rfl c1 dX0_enter_63 ?_
  refine r_bipush dX0_enter_64 (by decide) ?_
  refine r_icmp_ne (tgt := 77) (hM _ _ _) ⟨by decide, by decide⟩ dX0_enter_66 (by decide) (fun h2 => ?_) (fun h2 => ?_)
  · have H := H.1 h2
    refine r_aload_n (k := 0) rfl rfl dX0_enter_77 ?_
    refine r_iload_n (k := 1) rfl rfl dX0_enter_78 ?_
    refine r_iload_n (k := 3) rfl rfl dX0_enter_79 ?_
    refine r_iload (k := 4) rfl dX0_enter_80 ?_
    refine r_callV (g := mX0_behind) ckX0 ho0 rfl rfl rfl mkX0_behind mvX0_behind ml_X0_90 ⟨by decide, by decide⟩ rfl (Nat.le_of_ble_eq_true rfl) rfl (ok_i g1 (ok_i g3 (ok_i g4 ok_n))) dX0_enter_82 (sl_afterI (sl_RI.mono (fun y4 M3 gy4 hM3 H => ?_) H))
    refine r_iret rfl gy4 dX0_enter_85 ?_
    exact H
  · have H := H.2 h2
    refine r_iload_n (k := 2) rfl rfl dX0_enter_69 ?_
    refine r_if_ne (tgt := 77) g2 dX0_enter_70 (by decide) (fun h5 => ?_) (fun h5 => ?_)
    · have H := H.1 h5
      refine r_aload_n (k := 0) rfl rfl dX0_enter_77 ?_
      refine r_iload_n (k := 1) rfl rfl dX0_enter_78 ?_
      refine r_iload_n (k := 3) rfl rfl dX0_enter_79 ?_
      refine r_iload (k := 4) rfl dX0_enter_80 ?_
      refine r_callV (g := mX0_behind) ckX0 ho0 rfl rfl rfl mkX0_behind mvX0_behind ml_X0_90 ⟨by decide, by decide⟩ rfl (Nat.le_of_ble_eq_true rfl) rfl (ok_i g1 (ok_i g3 (ok_i g4 ok_n))) dX0_enter_82 (sl_afterI (sl_RI.mono (fun y7 M6 gy7 hM6 H => ?_) H))
      refine r_iret rfl gy7 dX0_enter_85 ?_
      exact H
    · have H := H.2 h5
      refine r_iload_n (k := 1) rfl rfl dX0_enter_73 ?_
      refine r_goto (tgt := 85) dX0_enter_74 (by decide) ?_
      refine r_iret rfl g1 dX0_enter_85 ?_
      exact H
theorem eX0_enter {l : Launch} {M : sl_M} {Q : sl_R} {o0 : Nat} {x1 x2 x3 x4 : Int} (k : sl_At l mX0_enter 0 [(0, vR o0 0), (1, vI x1), (2, vI x2), (3, vI x3), (4, vI x4)] [] M Q) : sl_Runs l mX0_enter [vR o0 0, vI x1, vI x2, vI x3, vI x4] M Q := sl_Runs.of (ls := [(0, vR o0 0), (1, vI x1), (2, vI x2), (3, vI x3), (4, vI x4)]) rfl rfl (fun _ => rfl) (fun _ => Nat.le_of_ble_eq_true rfl) rfl (k)
theorem dX0_pick_0 : decode cX0_pick 0 = .ok (.iload_n 3, 1) := by decide +kernel
theorem dX0_pick_1 : decode cX0_pick 1 = .ok (.istore 5, 2) := by decide +kernel
theorem dX0_pick_3 : decode cX0_pick 3 = .ok (.iconst 0, 1) := by decide +kernel
theorem dX0_pick_4 : decode cX0_pick 4 = .ok (.istore 6, 2) := by decide +kernel
theorem dX0_pick_6 : decode cX0_pick 6 = .ok (.iload_n 1, 1) := by decide +kernel
theorem dX0_pick_7 : decode cX0_pick 7 = .ok (.istore 7, 2) := by decide +kernel
theorem dX0_pick_9 : decode cX0_pick 9 = .ok (.iload 7, 2) := by decide +kernel
theorem dX0_pick_11 : decode cX0_pick 11 = .ok (.iload_n 2, 1) := by decide +kernel
theorem dX0_pick_12 : decode cX0_pick 12 = .ok (.if_icmp .gt 133, 3) := by decide +kernel
theorem dX0_pick_15 : decode cX0_pick 15 = .ok (.aload_n 0, 1) := by decide +kernel
theorem dX0_pick_16 : decode cX0_pick 16 = .ok (.getfield 9, 3) := by decide +kernel
theorem dX0_pick_19 : decode cX0_pick 19 = .ok (.iload 7, 2) := by decide +kernel
theorem dX0_pick_21 : decode cX0_pick 21 = .ok (.iaload, 1) := by decide +kernel
theorem dX0_pick_22 : decode cX0_pick 22 = .ok (.ifCond .ne 13, 3) := by decide +kernel
theorem dX0_pick_25 : decode cX0_pick 25 = .ok (.aload_n 0, 1) := by decide +kernel
theorem dX0_pick_26 : decode cX0_pick 26 = .ok (.getfield 27, 3) := by decide +kernel
theorem dX0_pick_29 : decode cX0_pick 29 = .ok (.iload 7, 2) := by decide +kernel
theorem dX0_pick_31 : decode cX0_pick 31 = .ok (.iaload, 1) := by decide +kernel
theorem dX0_pick_32 : decode cX0_pick 32 = .ok (.goto 4, 3) := by decide +kernel
theorem dX0_pick_35 : decode cX0_pick 35 = .ok (.iconst (-1), 1) := by decide +kernel
theorem dX0_pick_36 : decode cX0_pick 36 = .ok (.istore 8, 2) := by decide +kernel
theorem dX0_pick_38 : decode cX0_pick 38 = .ok (.iconst 0, 1) := by decide +kernel
theorem dX0_pick_39 : decode cX0_pick 39 = .ok (.istore 9, 2) := by decide +kernel
theorem dX0_pick_41 : decode cX0_pick 41 = .ok (.iload 9, 2) := by decide +kernel
theorem dX0_pick_43 : decode cX0_pick 43 = .ok (.aload_n 0, 1) := by decide +kernel
theorem dX0_pick_44 : decode cX0_pick 44 = .ok (.getfield 36, 3) := by decide +kernel
theorem dX0_pick_47 : decode cX0_pick 47 = .ok (.iload 7, 2) := by decide +kernel
theorem dX0_pick_49 : decode cX0_pick 49 = .ok (.iaload, 1) := by decide +kernel
theorem dX0_pick_50 : decode cX0_pick 50 = .ok (.if_icmp .gt 89, 3) := by decide +kernel
theorem dX0_pick_53 : decode cX0_pick 53 = .ok (.iload 9, 2) := by decide +kernel
theorem dX0_pick_55 : decode cX0_pick 55 = .ok (.aload_n 0, 1) := by decide +kernel
theorem dX0_pick_56 : decode cX0_pick 56 = .ok (.getfield 36, 3) := by decide +kernel
theorem dX0_pick_59 : decode cX0_pick 59 = .ok (.iload 7, 2) := by decide +kernel
theorem dX0_pick_61 : decode cX0_pick 61 = .ok (.iaload, 1) := by decide +kernel
theorem dX0_pick_62 : decode cX0_pick 62 = .ok (.if_icmp .ge 24, 3) := by decide +kernel
theorem dX0_pick_65 : decode cX0_pick 65 = .ok (.aload_n 0, 1) := by decide +kernel
theorem dX0_pick_66 : decode cX0_pick 66 = .ok (.getfield 42, 3) := by decide +kernel
theorem dX0_pick_69 : decode cX0_pick 69 = .ok (.aload_n 0, 1) := by decide +kernel
theorem dX0_pick_70 : decode cX0_pick 70 = .ok (.getfield 33, 3) := by decide +kernel
theorem dX0_pick_73 : decode cX0_pick 73 = .ok (.iload 7, 2) := by decide +kernel
theorem dX0_pick_75 : decode cX0_pick 75 = .ok (.iaload, 1) := by decide +kernel
theorem dX0_pick_76 : decode cX0_pick 76 = .ok (.iload 9, 2) := by decide +kernel
theorem dX0_pick_78 : decode cX0_pick 78 = .ok (.iadd, 1) := by decide +kernel
theorem dX0_pick_79 : decode cX0_pick 79 = .ok (.iaload, 1) := by decide +kernel
theorem dX0_pick_80 : decode cX0_pick 80 = .ok (.invokestatic 61, 3) := by decide +kernel
theorem dX0_pick_83 : decode cX0_pick 83 = .ok (.goto 5, 3) := by decide +kernel
theorem dX0_pick_86 : decode cX0_pick 86 = .ok (.iload 8, 2) := by decide +kernel
theorem dX0_pick_88 : decode cX0_pick 88 = .ok (.istore 10, 2) := by decide +kernel
theorem dX0_pick_90 : decode cX0_pick 90 = .ok (.iload 10, 2) := by decide +kernel
theorem dX0_pick_92 : decode cX0_pick 92 = .ok (.iconst (-1), 1) := by decide +kernel
theorem dX0_pick_93 : decode cX0_pick 93 = .ok (.if_icmp .eq 40, 3) := by decide +kernel
theorem dX0_pick_96 : decode cX0_pick 96 = .ok (.iload 5, 2) := by decide +kernel
theorem dX0_pick_98 : decode cX0_pick 98 = .ok (.iload 10, 2) := by decide +kernel
theorem dX0_pick_100 : decode cX0_pick 100 = .ok (.invokestatic 96, 3) := by decide +kernel
theorem dX0_pick_103 : decode cX0_pick 103 = .ok (.ifCond .ne 6, 3) := by decide +kernel
theorem dX0_pick_106 : decode cX0_pick 106 = .ok (.goto 27, 3) := by decide +kernel
theorem dX0_pick_109 : decode cX0_pick 109 = .ok (.iload 6, 2) := by decide +kernel
theorem dX0_pick_111 : decode cX0_pick 111 = .ok (.iload 4, 2) := by decide +kernel
theorem dX0_pick_113 : decode cX0_pick 113 = .ok (.if_icmp .ne 6, 3) := by decide +kernel
theorem dX0_pick_116 : decode cX0_pick 116 = .ok (.iload 10, 2) := by decide +kernel
theorem dX0_pick_118 : decode cX0_pick 118 = .ok (.ireturn, 1) := by decide +kernel
theorem dX0_pick_119 : decode cX0_pick 119 = .ok (.iinc 6 1, 3) := by decide +kernel
theorem dX0_pick_122 : decode cX0_pick 122 = .ok (.iload 5, 2) := by decide +kernel
theorem dX0_pick_124 : decode cX0_pick 124 = .ok (.iconst 1, 1) := by decide +kernel
theorem dX0_pick_125 : decode cX0_pick 125 = .ok (.iload 10, 2) := by decide +kernel
theorem dX0_pick_127 : decode cX0_pick 127 = .ok (.ishl, 1) := by decide +kernel
theorem dX0_pick_128 : decode cX0_pick 128 = .ok (.iconst (-1), 1) := by decide +kernel
theorem dX0_pick_129 : decode cX0_pick 129 = .ok (.ixor, 1) := by decide +kernel
theorem dX0_pick_130 : decode cX0_pick 130 = .ok (.iand, 1) := by decide +kernel
theorem dX0_pick_131 : decode cX0_pick 131 = .ok (.istore 5, 2) := by decide +kernel
theorem dX0_pick_133 : decode cX0_pick 133 = .ok (.iinc 9 1, 3) := by decide +kernel
theorem dX0_pick_136 : decode cX0_pick 136 = .ok (.goto (-95), 3) := by decide +kernel
theorem dX0_pick_139 : decode cX0_pick 139 = .ok (.iinc 7 1, 3) := by decide +kernel
theorem dX0_pick_142 : decode cX0_pick 142 = .ok (.goto (-133), 3) := by decide +kernel
theorem dX0_pick_145 : decode cX0_pick 145 = .ok (.iconst (-1), 1) := by decide +kernel
theorem dX0_pick_146 : decode cX0_pick 146 = .ok (.ireturn, 1) := by decide +kernel
set_option maxHeartbeats 4000000 in
set_option maxRecDepth 10000 in
theorem vX0_pick_0 {l : Launch} {M : sl_M} {Q : sl_R} {o0 : Nat} {x1 x2 x3 x4 : Int} (ho0 : sl_cls o0 = 0) (H : sl_RM M → sl_rg x1 → sl_rg x2 → sl_rg x3 → sl_rg x4 → sl_At l mX0_pick 9 [(0, vR o0 0), (2, vI x2), (4, vI x4), (5, vI x3), (6, vI 0), (7, vI x1)] [] M Q) : sl_At l mX0_pick 0 [(0, vR o0 0), (1, vI x1), (2, vI x2), (3, vI x3), (4, vI x4)] [] M Q := by
  refine sl_At.in (fun hM hls => ?_)
  have g1 : sl_rg x1 := hls _ (List.mem_of_getElem? (i := 1) rfl)
  have g2 : sl_rg x2 := hls _ (List.mem_of_getElem? (i := 2) rfl)
  have g3 : sl_rg x3 := hls _ (List.mem_of_getElem? (i := 3) rfl)
  have g4 : sl_rg x4 := hls _ (List.mem_of_getElem? (i := 4) rfl)
  have H := H hM g1 g2 g3 g4
  refine r_iload_n (k := 3) rfl rfl dX0_pick_0 ?_
  refine r_istore (ls' := [(5, vI x3), (0, vR o0 0), (1, vI x1), (2, vI x2), (3, vI x3), (4, vI x4)]) g3 (by decide) rfl dX0_pick_1 ?_
  refine r_iconst dX0_pick_3 ?_
  refine r_istore (ls' := [(6, vI 0), (5, vI x3), (0, vR o0 0), (1, vI x1), (2, vI x2), (3, vI x3), (4, vI x4)]) ⟨by decide, by decide⟩ (by decide) rfl dX0_pick_4 ?_
  refine r_iload_n (k := 3) rfl rfl dX0_pick_6 ?_
  refine r_istore (ls' := [(7, vI x1), (6, vI 0), (5, vI x3), (0, vR o0 0), (1, vI x1), (2, vI x2), (3, vI x3), (4, vI x4)]) g1 (by decide) rfl dX0_pick_7 ?_
  exact sl_At.sub [3, 5, 7, 2, 1, 0] rfl H
set_option maxHeartbeats 4000000 in
set_option maxRecDepth 10000 in
theorem vX0_pick_9 {l : Launch} {M : sl_M} {Q : sl_R} {o0 : Nat} {x2 x4 x5 x6 x7 : Int} (ho0 : sl_cls o0 = 0) (H : sl_RM M → sl_rg x2 → sl_rg x4 → sl_rg x5 → sl_rg x6 → sl_rg x7 → ((x2 < x7) → Q (some (vI (-1))) M) ∧ ((¬ (x2 < x7)) → (0 ≤ x7 ∧ x7 < 40) ∧ (∀ y4 : Int, y4 = (if M o0 1 x7 ≠ 0 then (-1) else M o0 6 x7) → sl_At l mX0_pick 41 [(0, vR o0 0), (2, vI x2), (4, vI x4), (5, vI x5), (6, vI x6), (7, vI x7), (8, vI y4), (9, vI 0)] [] M Q))) : sl_At l mX0_pick 9 [(0, vR o0 0), (2, vI x2), (4, vI x4), (5, vI x5), (6, vI x6), (7, vI x7)] [] M Q := by
  refine sl_At.in (fun hM hls => ?_)
  have g2 : sl_rg x2 := hls _ (List.mem_of_getElem? (i := 1) rfl)
  have g4 : sl_rg x4 := hls _ (List.mem_of_getElem? (i := 2) rfl)
  have g5 : sl_rg x5 := hls _ (List.mem_of_getElem? (i := 3) rfl)
  have g6 : sl_rg x6 := hls _ (List.mem_of_getElem? (i := 4) rfl)
  have g7 : sl_rg x7 := hls _ (List.mem_of_getElem? (i := 5) rfl)
  have H := H hM g2 g4 g5 g6 g7
  refine r_iload (k := 5) rfl dX0_pick_9 ?_
  refine r_iload_n (k := 1) rfl rfl dX0_pick_11 ?_
  refine r_icmp_gt (tgt := 145) g7 g2 dX0_pick_12 (by decide) (fun h1 => ?_) (fun h1 => ?_)
  · have H := H.1 h1
    refine r_iconst dX0_pick_145 ?_
    refine r_iret rfl ⟨by decide, by decide⟩ dX0_pick_146 ?_
    exact H
  · have H := H.2 h1
    refine r_aload_n (k := 0) rfl rfl dX0_pick_15 ?_
    refine r_getR (k := 0) (o' := o0) (i' := 1) ckX0 ho0 rfl (by decide) rfl rfl rfl fl_X0_9 dX0_pick_16 ?_
    refine r_iload (k := 5) rfl dX0_pick_19 ?_
    obtain ⟨c2, H⟩ := H
    refine r_iald ho0 rfl rfl c2 dX0_pick_21 ?_
    have J : sl_At l mX0_pick 36 [(0, vR o0 0), (2, vI x2), (4, vI x4), (5, vI x5), (6, vI x6), (7, vI x7)] [vI (if M o0 1 x7 ≠ 0 then (-1) else M o0 6 x7)] M Q := by
      refine r_nm (fun y4 fy4 => ?_)
      have H := H y4 fy4
      have gy4 : sl_rg y4 := by rw [fy4]; exact (sl_rgite ⟨by decide, by decide⟩ (hM _ _ _))
      refine r_istore (ls' := [(8, vI y4), (0, vR o0 0), (2, vI x2), (4, vI x4), (5, vI x5), (6, vI x6), (7, vI x7)]) gy4 (by decide) rfl dX0_pick_36 ?_
      refine r_iconst dX0_pick_38 ?_
      refine r_istore (ls' := [(9, vI 0), (8, vI y4), (0, vR o0 0), (2, vI x2), (4, vI x4), (5, vI x5), (6, vI x6), (7, vI x7)]) ⟨by decide, by decide⟩ (by decide) rfl dX0_pick_39 ?_
      exact sl_At.sub [2, 3, 4, 5, 6, 7, 1, 0] rfl H
    refine r_if_ne (tgt := 35) (hM _ _ _) dX0_pick_22 (by decide) (fun h3 => ?_) (fun h3 => ?_)
    · refine r_iconst dX0_pick_35 ?_
      rw [if_pos h3] at J
      exact J
    · refine r_aload_n (k := 0) rfl rfl dX0_pick_25 ?_
      refine r_getR (k := 5) (o' := o0) (i' := 6) ckX0 ho0 rfl (by decide) rfl rfl rfl fl_X0_27 dX0_pick_26 ?_
      refine r_iload (k := 5) rfl dX0_pick_29 ?_
      refine r_iald ho0 rfl rfl c2 dX0_pick_31 ?_
      refine r_goto (tgt := 36) dX0_pick_32 (by decide) ?_
      rw [if_neg h3] at J
      exact J
set_option maxHeartbeats 4000000 in
set_option maxRecDepth 10000 in
theorem vX0_pick_41 {l : Launch} {M : sl_M} {Q : sl_R} {o0 : Nat} {x2 x4 x5 x6 x7 x8 x9 : Int} (ho0 : sl_cls o0 = 0) (H : sl_RM M → sl_rg x2 → sl_rg x4 → sl_rg x5 → sl_rg x6 → sl_rg x7 → sl_rg x8 → sl_rg x9 → (0 ≤ x7 ∧ x7 < 40) ∧ ((M o0 9 x7 < x9) → (sl_rg (x7 + 1)) ∧ sl_At l mX0_pick 9 [(0, vR o0 0), (2, vI x2), (4, vI x4), (5, vI x5), (6, vI x6), (7, vI (x7 + 1))] [] M Q) ∧ ((¬ (M o0 9 x7 < x9)) → ((M o0 9 x7 ≤ x9) → sl_At l mX0_pick 88 [(0, vR o0 0), (2, vI x2), (4, vI x4), (5, vI x5), (6, vI x6), (7, vI x7), (8, vI x8), (9, vI x9)] [vI x8] M Q) ∧ ((¬ (M o0 9 x7 ≤ x9)) → (0 ≤ M o0 8 x7 + x9 ∧ M o0 8 x7 + x9 < 160) ∧ sl_At l mX0_pick 88 [(0, vR o0 0), (2, vI x2), (4, vI x4), (5, vI x5), (6, vI x6), (7, vI x7), (8, vI x8), (9, vI x9)] [vI (sp_var (M o0 11 (M o0 8 x7 + x9)))] M Q))) : sl_At l mX0_pick 41 [(0, vR o0 0), (2, vI x2), (4, vI x4), (5, vI x5), (6, vI x6), (7, vI x7), (8, vI x8), (9, vI x9)] [] M Q := by
  refine sl_At.in (fun hM hls => ?_)
  have g2 : sl_rg x2 := hls _ (List.mem_of_getElem? (i := 1) rfl)
  have g4 : sl_rg x4 := hls _ (List.mem_of_getElem? (i := 2) rfl)
  have g5 : sl_rg x5 := hls _ (List.mem_of_getElem? (i := 3) rfl)
  have g6 : sl_rg x6 := hls _ (List.mem_of_getElem? (i := 4) rfl)
  have g7 : sl_rg x7 := hls _ (List.mem_of_getElem? (i := 5) rfl)
  have g8 : sl_rg x8 := hls _ (List.mem_of_getElem? (i := 6) rfl)
  have g9 : sl_rg x9 := hls _ (List.mem_of_getElem? (i := 7) rfl)
  have H := H hM g2 g4 g5 g6 g7 g8 g9
  refine r_iload (k := 7) rfl dX0_pick_41 ?_
  refine r_aload_n (k := 0) rfl rfl dX0_pick_43 ?_
  refine r_getR (k := 8) (o' := o0) (i' := 9) ckX0 ho0 rfl (by decide) rfl rfl rfl fl_X0_36 dX0_pick_44 ?_
  refine r_iload (k := 5) rfl dX0_pick_47 ?_
  obtain ⟨c1, H⟩ := H
  refine r_iald ho0 rfl rfl c1 dX0_pick_49 ?_
  refine r_icmp_gt (tgt := 139) g9 (hM _ _ _) dX0_pick_50 (by decide) (fun h2 => ?_) (fun h2 => ?_)
  · have H := H.1 h2
    obtain ⟨c3, H⟩ := H
    refine r_iinc (k := 5) (ls' := [(7, vI (x7 + 1)), (0, vR o0 0), (2, vI x2), (4, vI x4), (5, vI x5), (6, vI x6), (8, vI x8), (9, vI x9)]) rfl c3 (by decide) rfl dX0_pick_139 ?_
    refine r_goto (tgt := 9) dX0_pick_142 (by decide) ?_
    exact sl_At.sub [1, 2, 3, 4, 5, 0] rfl H
  · have H := H.2 h2
    refine r_iload (k := 7) rfl dX0_pick_53 ?_
    refine r_aload_n (k := 0) rfl rfl dX0_pick_55 ?_
    refine r_getR (k := 8) (o' := o0) (i' := 9) ckX0 ho0 rfl (by decide) rfl rfl rfl fl_X0_36 dX0_pick_56 ?_
    refine r_iload (k := 5) rfl dX0_pick_59 ?_
    refine r_iald ho0 rfl rfl c1 dX0_pick_61 ?_
    refine r_icmp_ge (tgt := 86) g9 (hM _ _ _) dX0_pick_62 (by decide) (fun h4 => ?_) (fun h4 => ?_)
    · have H := H.1 h4
      refine r_iload (k := 6) rfl dX0_pick_86 ?_
      exact H
    · have H := H.2 h4
      refine r_aload_n (k := 0) rfl rfl dX0_pick_65 ?_
      refine r_getR (k := 10) (o' := o0) (i' := 11) ckX0 ho0 rfl (by decide) rfl rfl rfl fl_X0_42 dX0_pick_66 ?_
      refine r_aload_n (k := 0) rfl rfl dX0_pick_69 ?_
      refine r_getR (k := 7) (o' := o0) (i' := 8) ckX0 ho0 rfl (by decide) rfl rfl rfl fl_X0_33 dX0_pick_70 ?_
      refine r_iload (k := 5) rfl dX0_pick_73 ?_
      refine r_iald ho0 rfl rfl c1 dX0_pick_75 ?_
      refine r_iload (k := 7) rfl dX0_pick_76 ?_
      refine r_iadd dX0_pick_78 ?_
      obtain ⟨c5, H⟩ := H
      refine r_iald ho0 rfl rfl c5 dX0_pick_79 ?_
      refine r_callSN (g := mX9_variableOf) rfl mkX9_variableOf msX9_variableOf mn_X0_61 ⟨by decide, by decide⟩ rfl (Nat.le_of_ble_eq_true rfl) rfl (ok_i (hM _ _ _) ok_n) dX0_pick_80 (sl_afterI (sl_RI.by kX9_variableOf ?_))
      refine r_goto (tgt := 88) dX0_pick_83 (by decide) ?_
      exact H
set_option maxHeartbeats 4000000 in
set_option maxRecDepth 10000 in
theorem vX0_pick_88 {l : Launch} {M : sl_M} {Q : sl_R} {o0 : Nat} {x2 x4 x5 x6 x7 x8 x9 s0 : Int} (ho0 : sl_cls o0 = 0) (gs0 : sl_rg s0) (H : sl_RM M → sl_rg x2 → sl_rg x4 → sl_rg x5 → sl_rg x6 → sl_rg x7 → sl_rg x8 → sl_rg x9 → ((s0 = (-1)) → (sl_rg (x9 + 1)) ∧ sl_At l mX0_pick 41 [(0, vR o0 0), (2, vI x2), (4, vI x4), (5, vI x5), (6, vI x6), (7, vI x7), (8, vI x8), (9, vI (x9 + 1))] [] M Q) ∧ ((¬ (s0 = (-1))) → ((iand (ishr x5 s0) 1 ≠ 0) → ((x6 ≠ x4) → (sl_rg (x6 + 1)) ∧ (∀ y6 : Int, y6 = iand x5 (ixor (ishl 1 s0) (-1)) → (sl_rg (x9 + 1)) ∧ sl_At l mX0_pick 41 [(0, vR o0 0), (2, vI x2), (4, vI x4), (5, vI y6), (6, vI (x6 + 1)), (7, vI x7), (8, vI x8), (9, vI (x9 + 1))] [] M Q)) ∧ ((¬ (x6 ≠ x4)) → Q (some (vI s0)) M)) ∧ ((¬ (iand (ishr x5 s0) 1 ≠ 0)) → (sl_rg (x9 + 1)) ∧ sl_At l mX0_pick 41 [(0, vR o0 0), (2, vI x2), (4, vI x4), (5, vI x5), (6, vI x6), (7, vI x7), (8, vI x8), (9, vI (x9 + 1))] [] M Q))) : sl_At l mX0_pick 88 [(0, vR o0 0), (2, vI x2), (4, vI x4), (5, vI x5), (6, vI x6), (7, vI x7), (8, vI x8), (9, vI x9)] [vI s0] M Q := by
  refine sl_At.in (fun hM hls => ?_)
  have g2 : sl_rg x2 := hls _ (List.mem_of_getElem? (i := 1) rfl)
  have g4 : sl_rg x4 := hls _ (List.mem_of_getElem? (i := 2) rfl)
  have g5 : sl_rg x5 := hls _ (List.mem_of_getElem? (i := 3) rfl)
  have g6 : sl_rg x6 := hls _ (List.mem_of_getElem? (i := 4) rfl)
  have g7 : sl_rg x7 := hls _ (List.mem_of_getElem? (i := 5) rfl)
  have g8 : sl_rg x8 := hls _ (List.mem_of_getElem? (i := 6) rfl)
  have g9 : sl_rg x9 := hls _ (List.mem_of_getElem? (i := 7) rfl)
  have H := H hM g2 g4 g5 g6 g7 g8 g9
  refine r_istore (ls' := [(10, vI s0), (0, vR o0 0), (2, vI x2), (4, vI x4), (5, vI x5), (6, vI x6), (7, vI x7), (8, vI x8), (9, vI x9)]) gs0 (by decide) rfl dX0_pick_88 ?_
  refine r_iload (k := 0) rfl dX0_pick_90 ?_
  refine r_iconst dX0_pick_92 ?_
  refine r_icmp_eq (tgt := 133) gs0 ⟨by decide, by decide⟩ dX0_pick_93 (by decide) (fun h1 => ?_) (fun h1 => ?_)
  · have H := H.1 h1
    obtain ⟨c2, H⟩ := H
    refine r_iinc (k := 8) (ls' := [(9, vI (x9 + 1)), (10, vI s0), (0, vR o0 0), (2, vI x2), (4, vI x4), (5, vI x5), (6, vI x6), (7, vI x7), (8, vI x8)]) rfl c2 (by decide) rfl dX0_pick_133 ?_
    refine r_goto (tgt := 41) dX0_pick_136 (by decide) ?_
    exact sl_At.sub [2, 3, 4, 5, 6, 7, 8, 0] rfl H
  · have H := H.2 h1
    refine r_iload (k := 4) rfl dX0_pick_96 ?_
    refine r_iload (k := 0) rfl dX0_pick_98 ?_
    refine r_callSN (g := mX9_has) rfl mkX9_has msX9_has mn_X0_96 ⟨by decide, by decide⟩ rfl (Nat.le_of_ble_eq_true rfl) rfl (ok_i g5 (ok_i gs0 ok_n)) dX0_pick_100 (sl_afterI (sl_RI.by kX9_has ?_))
    refine r_if_ne (tgt := 109) rg_b dX0_pick_103 (by decide) (fun h3 => ?_) (fun h3 => ?_)
    · have H := H.1 (b_ne0.mp h3)
      refine r_iload (k := 5) rfl dX0_pick_109 ?_
      refine r_iload (k := 3) rfl dX0_pick_111 ?_
      refine r_icmp_ne (tgt := 119) g6 g4 dX0_pick_113 (by decide) (fun h4 => ?_) (fun h4 => ?_)
      · have H := H.1 h4
        obtain ⟨c5, H⟩ := H
        refine r_iinc (k := 5) (ls' := [(6, vI (x6 + 1)), (10, vI s0), (0, vR o0 0), (2, vI x2), (4, vI x4), (5, vI x5), (7, vI x7), (8, vI x8), (9, vI x9)]) rfl c5 (by decide) rfl dX0_pick_119 ?_
        refine r_iload (k := 5) rfl dX0_pick_122 ?_
        refine r_iconst dX0_pick_124 ?_
        refine r_iload (k := 1) rfl dX0_pick_125 ?_
        refine r_ishl dX0_pick_127 ?_
        refine r_iconst dX0_pick_128 ?_
        refine r_ixor dX0_pick_129 ?_
        refine r_iand dX0_pick_130 ?_
        refine r_nm (fun y6 fy6 => ?_)
        have H := H y6 fy6
        have gy6 : sl_rg y6 := by rw [fy6]; exact (rg_iand _ _)
        refine r_istore (ls' := [(5, vI y6), (6, vI (x6 + 1)), (10, vI s0), (0, vR o0 0), (2, vI x2), (4, vI x4), (7, vI x7), (8, vI x8), (9, vI x9)]) gy6 (by decide) rfl dX0_pick_131 ?_
        obtain ⟨c7, H⟩ := H
        refine r_iinc (k := 8) (ls' := [(9, vI (x9 + 1)), (5, vI y6), (6, vI (x6 + 1)), (10, vI s0), (0, vR o0 0), (2, vI x2), (4, vI x4), (7, vI x7), (8, vI x8)]) rfl c7 (by decide) rfl dX0_pick_133 ?_
        refine r_goto (tgt := 41) dX0_pick_136 (by decide) ?_
        exact sl_At.sub [4, 5, 6, 1, 2, 7, 8, 0] rfl H
      · have H := H.2 h4
        refine r_iload (k := 0) rfl dX0_pick_116 ?_
        refine r_iret rfl gs0 dX0_pick_118 ?_
        exact H
    · have H := H.2 (b_eq0.mp (Decidable.of_not_not h3))
      refine r_goto (tgt := 133) dX0_pick_106 (by decide) ?_
      obtain ⟨c8, H⟩ := H
      refine r_iinc (k := 8) (ls' := [(9, vI (x9 + 1)), (10, vI s0), (0, vR o0 0), (2, vI x2), (4, vI x4), (5, vI x5), (6, vI x6), (7, vI x7), (8, vI x8)]) rfl c8 (by decide) rfl dX0_pick_133 ?_
      refine r_goto (tgt := 41) dX0_pick_136 (by decide) ?_
      exact sl_At.sub [2, 3, 4, 5, 6, 7, 8, 0] rfl H
theorem eX0_pick {l : Launch} {M : sl_M} {Q : sl_R} {o0 : Nat} {x1 x2 x3 x4 : Int} (k : sl_At l mX0_pick 0 [(0, vR o0 0), (1, vI x1), (2, vI x2), (3, vI x3), (4, vI x4)] [] M Q) : sl_Runs l mX0_pick [vR o0 0, vI x1, vI x2, vI x3, vI x4] M Q := sl_Runs.of (ls := [(0, vR o0 0), (1, vI x1), (2, vI x2), (3, vI x3), (4, vI x4)]) rfl rfl (fun _ => rfl) (fun _ => Nat.le_of_ble_eq_true rfl) rfl (k)
theorem dX0_mayFailToDivide_0 : decode cX0_mayFailToDivide 0 = .ok (.iconst 0, 1) := by decide +kernel
theorem dX0_mayFailToDivide_1 : decode cX0_mayFailToDivide 1 = .ok (.istore_n 1, 1) := by decide +kernel
theorem dX0_mayFailToDivide_2 : decode cX0_mayFailToDivide 2 = .ok (.iload_n 1, 1) := by decide +kernel
theorem dX0_mayFailToDivide_3 : decode cX0_mayFailToDivide 3 = .ok (.aload_n 0, 1) := by decide +kernel
theorem dX0_mayFailToDivide_4 : decode cX0_mayFailToDivide 4 = .ok (.getfield 45, 3) := by decide +kernel
theorem dX0_mayFailToDivide_7 : decode cX0_mayFailToDivide 7 = .ok (.if_icmp .ge 81, 3) := by decide +kernel
theorem dX0_mayFailToDivide_10 : decode cX0_mayFailToDivide 10 = .ok (.iconst 0, 1) := by decide +kernel
theorem dX0_mayFailToDivide_11 : decode cX0_mayFailToDivide 11 = .ok (.istore_n 2, 1) := by decide +kernel
theorem dX0_mayFailToDivide_12 : decode cX0_mayFailToDivide 12 = .ok (.iload_n 2, 1) := by decide +kernel
theorem dX0_mayFailToDivide_13 : decode cX0_mayFailToDivide 13 = .ok (.aload_n 0, 1) := by decide +kernel
theorem dX0_mayFailToDivide_14 : decode cX0_mayFailToDivide 14 = .ok (.getfield 36, 3) := by decide +kernel
theorem dX0_mayFailToDivide_17 : decode cX0_mayFailToDivide 17 = .ok (.iload_n 1, 1) := by decide +kernel
theorem dX0_mayFailToDivide_18 : decode cX0_mayFailToDivide 18 = .ok (.iaload, 1) := by decide +kernel
theorem dX0_mayFailToDivide_19 : decode cX0_mayFailToDivide 19 = .ok (.if_icmp .ge 63, 3) := by decide +kernel
theorem dX0_mayFailToDivide_22 : decode cX0_mayFailToDivide 22 = .ok (.aload_n 0, 1) := by decide +kernel
theorem dX0_mayFailToDivide_23 : decode cX0_mayFailToDivide 23 = .ok (.iload_n 1, 1) := by decide +kernel
theorem dX0_mayFailToDivide_24 : decode cX0_mayFailToDivide 24 = .ok (.iload_n 2, 1) := by decide +kernel
theorem dX0_mayFailToDivide_25 : decode cX0_mayFailToDivide 25 = .ok (.invokevirtual 100, 3) := by decide +kernel
theorem dX0_mayFailToDivide_28 : decode cX0_mayFailToDivide 28 = .ok (.istore_n 3, 1) := by decide +kernel
theorem dX0_mayFailToDivide_29 : decode cX0_mayFailToDivide 29 = .ok (.iload_n 3, 1) := by decide +kernel
theorem dX0_mayFailToDivide_30 : decode cX0_mayFailToDivide 30 = .ok (.bipush 47, 2) := by decide +kernel
theorem dX0_mayFailToDivide_32 : decode cX0_mayFailToDivide 32 = .ok (.if_icmp .eq 12, 3) := by decide +kernel
theorem dX0_mayFailToDivide_35 : decode cX0_mayFailToDivide 35 = .ok (.iload_n 3, 1) := by decide +kernel
theorem dX0_mayFailToDivide_36 : decode cX0_mayFailToDivide 36 = .ok (.bipush 37, 2) := by decide +kernel
theorem dX0_mayFailToDivide_38 : decode cX0_mayFailToDivide 38 = .ok (.if_icmp .eq 6, 3) := by decide +kernel
theorem dX0_mayFailToDivide_41 : decode cX0_mayFailToDivide 41 = .ok (.goto 35, 3) := by decide +kernel
theorem dX0_mayFailToDivide_44 : decode cX0_mayFailToDivide 44 = .ok (.aload_n 0, 1) := by decide +kernel
theorem dX0_mayFailToDivide_45 : decode cX0_mayFailToDivide 45 = .ok (.iload_n 1, 1) := by decide +kernel
theorem dX0_mayFailToDivide_46 : decode cX0_mayFailToDivide 46 = .ok (.aload_n 0, 1) := by decide +kernel
theorem dX0_mayFailToDivide_47 : decode cX0_mayFailToDivide 47 = .ok (.iload_n 1, 1) := by decide +kernel
theorem dX0_mayFailToDivide_48 : decode cX0_mayFailToDivide 48 = .ok (.iload_n 2, 1) := by decide +kernel
theorem dX0_mayFailToDivide_49 : decode cX0_mayFailToDivide 49 = .ok (.iconst 1, 1) := by decide +kernel
theorem dX0_mayFailToDivide_50 : decode cX0_mayFailToDivide 50 = .ok (.iadd, 1) := by decide +kernel
theorem dX0_mayFailToDivide_51 : decode cX0_mayFailToDivide 51 = .ok (.invokevirtual 103, 3) := by decide +kernel
theorem dX0_mayFailToDivide_54 : decode cX0_mayFailToDivide 54 = .ok (.invokevirtual 100, 3) := by decide +kernel
theorem dX0_mayFailToDivide_57 : decode cX0_mayFailToDivide 57 = .ok (.istore 4, 2) := by decide +kernel
theorem dX0_mayFailToDivide_59 : decode cX0_mayFailToDivide 59 = .ok (.iload 4, 2) := by decide +kernel
theorem dX0_mayFailToDivide_61 : decode cX0_mayFailToDivide 61 = .ok (.invokestatic 106, 3) := by decide +kernel
theorem dX0_mayFailToDivide_64 : decode cX0_mayFailToDivide 64 = .ok (.ifCond .eq 10, 3) := by decide +kernel
theorem dX0_mayFailToDivide_67 : decode cX0_mayFailToDivide 67 = .ok (.iload 4, 2) := by decide +kernel
theorem dX0_mayFailToDivide_69 : decode cX0_mayFailToDivide 69 = .ok (.bipush 48, 2) := by decide +kernel
theorem dX0_mayFailToDivide_71 : decode cX0_mayFailToDivide 71 = .ok (.if_icmp .ne 5, 3) := by decide +kernel
theorem dX0_mayFailToDivide_74 : decode cX0_mayFailToDivide 74 = .ok (.iconst 1, 1) := by decide +kernel
theorem dX0_mayFailToDivide_75 : decode cX0_mayFailToDivide 75 = .ok (.ireturn, 1) := by decide +kernel
theorem dX0_mayFailToDivide_76 : decode cX0_mayFailToDivide 76 = .ok (.iinc 2 1, 3) := by decide +kernel
theorem dX0_mayFailToDivide_79 : decode cX0_mayFailToDivide 79 = .ok (.goto (-67), 3) := by decide +kernel
theorem dX0_mayFailToDivide_82 : decode cX0_mayFailToDivide 82 = .ok (.iinc 1 1, 3) := by decide +kernel
theorem dX0_mayFailToDivide_85 : decode cX0_mayFailToDivide 85 = .ok (.goto (-83), 3) := by decide +kernel
theorem dX0_mayFailToDivide_88 : decode cX0_mayFailToDivide 88 = .ok (.iconst 0, 1) := by decide +kernel
theorem dX0_mayFailToDivide_89 : decode cX0_mayFailToDivide 89 = .ok (.ireturn, 1) := by decide +kernel
set_option maxHeartbeats 4000000 in
set_option maxRecDepth 10000 in
theorem vX0_mayFailToDivide_0 {l : Launch} {M : sl_M} {Q : sl_R} {o0 : Nat} (ho0 : sl_cls o0 = 0) (H : sl_RM M → sl_At l mX0_mayFailToDivide 2 [(0, vR o0 0), (1, vI 0)] [] M Q) : sl_At l mX0_mayFailToDivide 0 [(0, vR o0 0)] [] M Q := by
  refine sl_At.in (fun hM hls => ?_)
  have H := H hM
  refine r_iconst dX0_mayFailToDivide_0 ?_
  refine r_istore_n (ls' := [(1, vI 0), (0, vR o0 0)]) ⟨by decide, by decide⟩ rfl (by decide) rfl dX0_mayFailToDivide_1 ?_
  exact sl_At.sub [1, 0] rfl H
set_option maxHeartbeats 4000000 in
set_option maxRecDepth 10000 in
theorem vX0_mayFailToDivide_2 {l : Launch} {M : sl_M} {Q : sl_R} {o0 : Nat} {x1 : Int} (ho0 : sl_cls o0 = 0) (H : sl_RM M → sl_rg x1 → ((M o0 0 11 ≤ x1) → Q (some (vI 0)) M) ∧ ((¬ (M o0 0 11 ≤ x1)) → sl_At l mX0_mayFailToDivide 12 [(0, vR o0 0), (1, vI x1), (2, vI 0)] [] M Q)) : sl_At l mX0_mayFailToDivide 2 [(0, vR o0 0), (1, vI x1)] [] M Q := by
  refine sl_At.in (fun hM hls => ?_)
  have g1 : sl_rg x1 := hls _ (List.mem_of_getElem? (i := 1) rfl)
  have H := H hM g1
  refine r_iload_n (k := 1) rfl rfl dX0_mayFailToDivide_2 ?_
  refine r_aload_n (k := 0) rfl rfl dX0_mayFailToDivide_3 ?_
  refine r_gI (k := 11) (kz := 11) rfl ckX0 ho0 rfl (by decide) rfl rfl fl_X0_45 dX0_mayFailToDivide_4 ?_
  refine r_icmp_ge (tgt := 88) g1 (hM _ _ _) dX0_mayFailToDivide_7 (by decide) (fun h1 => ?_) (fun h1 => ?_)
  · have H := H.1 h1
    refine r_iconst dX0_mayFailToDivide_88 ?_
    refine r_zret rfl (Or.inl rfl) dX0_mayFailToDivide_89 ?_
    exact H
  · have H := H.2 h1
    refine r_iconst dX0_mayFailToDivide_10 ?_
    refine r_istore_n (ls' := [(2, vI 0), (0, vR o0 0), (1, vI x1)]) ⟨by decide, by decide⟩ rfl (by decide) rfl dX0_mayFailToDivide_11 ?_
    exact sl_At.sub [1, 2, 0] rfl H
set_option maxHeartbeats 4000000 in
set_option maxRecDepth 10000 in
theorem vX0_mayFailToDivide_12 {l : Launch} {M : sl_M} {Q : sl_R} {o0 : Nat} {x1 x2 : Int} (ho0 : sl_cls o0 = 0) (H : sl_RM M → sl_rg x1 → sl_rg x2 → (0 ≤ x1 ∧ x1 < 40) ∧ ((M o0 9 x1 ≤ x2) → (sl_rg (x1 + 1)) ∧ sl_At l mX0_mayFailToDivide 2 [(0, vR o0 0), (1, vI (x1 + 1))] [] M Q) ∧ ((¬ (M o0 9 x1 ≤ x2)) → sl_RI l mX0_symbol [vR o0 0, vI x1, vI x2] M (fun y5 M4 => ((y5 = 47) → sl_At l mX0_mayFailToDivide 44 [(0, vR o0 0), (1, vI x1), (2, vI x2)] [] M4 Q) ∧ ((¬ (y5 = 47)) → ((y5 = 37) → sl_At l mX0_mayFailToDivide 44 [(0, vR o0 0), (1, vI x1), (2, vI x2)] [] M4 Q) ∧ ((¬ (y5 = 37)) → (sl_rg (x2 + 1)) ∧ sl_At l mX0_mayFailToDivide 12 [(0, vR o0 0), (1, vI x1), (2, vI (x2 + 1))] [] M4 Q))))) : sl_At l mX0_mayFailToDivide 12 [(0, vR o0 0), (1, vI x1), (2, vI x2)] [] M Q := by
  refine sl_At.in (fun hM hls => ?_)
  have g1 : sl_rg x1 := hls _ (List.mem_of_getElem? (i := 1) rfl)
  have g2 : sl_rg x2 := hls _ (List.mem_of_getElem? (i := 2) rfl)
  have H := H hM g1 g2
  refine r_iload_n (k := 2) rfl rfl dX0_mayFailToDivide_12 ?_
  refine r_aload_n (k := 0) rfl rfl dX0_mayFailToDivide_13 ?_
  refine r_getR (k := 8) (o' := o0) (i' := 9) ckX0 ho0 rfl (by decide) rfl rfl rfl fl_X0_36 dX0_mayFailToDivide_14 ?_
  refine r_iload_n (k := 1) rfl rfl dX0_mayFailToDivide_17 ?_
  obtain ⟨c1, H⟩ := H
  refine r_iald ho0 rfl rfl c1 dX0_mayFailToDivide_18 ?_
  refine r_icmp_ge (tgt := 82) g2 (hM _ _ _) dX0_mayFailToDivide_19 (by decide) (fun h2 => ?_) (fun h2 => ?_)
  · have H := H.1 h2
    obtain ⟨c3, H⟩ := H
    refine r_iinc (k := 1) (ls' := [(1, vI (x1 + 1)), (0, vR o0 0), (2, vI x2)]) rfl c3 (by decide) rfl dX0_mayFailToDivide_82 ?_
    refine r_goto (tgt := 2) dX0_mayFailToDivide_85 (by decide) ?_
    exact sl_At.sub [1, 0] rfl H
  · have H := H.2 h2
    refine r_aload_n (k := 0) rfl rfl dX0_mayFailToDivide_22 ?_
    refine r_iload_n (k := 1) rfl rfl dX0_mayFailToDivide_23 ?_
    refine r_iload_n (k := 2) rfl rfl dX0_mayFailToDivide_24 ?_
    refine r_callV (g := mX0_symbol) ckX0 ho0 rfl rfl rfl mkX0_symbol mvX0_symbol ml_X0_100 ⟨by decide, by decide⟩ rfl (Nat.le_of_ble_eq_true rfl) rfl (ok_i g1 (ok_i g2 ok_n)) dX0_mayFailToDivide_25 (sl_afterI (sl_RI.mono (fun y5 M4 gy5 hM4 H => ?_) H))
    refine r_istore_n (ls' := [(3, vI y5), (0, vR o0 0), (1, vI x1), (2, vI x2)]) gy5 rfl (by decide) rfl dX0_mayFailToDivide_28 ?_
    refine r_iload_n (k := 0) rfl rfl dX0_mayFailToDivide_29 ?_
    refine r_bipush dX0_mayFailToDivide_30 (by decide) ?_
    refine r_icmp_eq (tgt := 44) gy5 ⟨by decide, by decide⟩ dX0_mayFailToDivide_32 (by decide) (fun h6 => ?_) (fun h6 => ?_)
    · have H := H.1 h6
      exact sl_At.sub [1, 2, 3] rfl H
    · have H := H.2 h6
      refine r_iload_n (k := 0) rfl rfl dX0_mayFailToDivide_35 ?_
      refine r_bipush dX0_mayFailToDivide_36 (by decide) ?_
      refine r_icmp_eq (tgt := 44) gy5 ⟨by decide, by decide⟩ dX0_mayFailToDivide_38 (by decide) (fun h7 => ?_) (fun h7 => ?_)
      · have H := H.1 h7
        exact sl_At.sub [1, 2, 3] rfl H
      · have H := H.2 h7
        refine r_goto (tgt := 76) dX0_mayFailToDivide_41 (by decide) ?_
        obtain ⟨c8, H⟩ := H
        refine r_iinc (k := 3) (ls' := [(2, vI (x2 + 1)), (3, vI y5), (0, vR o0 0), (1, vI x1)]) rfl c8 (by decide) rfl dX0_mayFailToDivide_76 ?_
        refine r_goto (tgt := 12) dX0_mayFailToDivide_79 (by decide) ?_
        exact sl_At.sub [2, 3, 0] rfl H
set_option maxHeartbeats 4000000 in
set_option maxRecDepth 10000 in
theorem vX0_mayFailToDivide_44 {l : Launch} {M : sl_M} {Q : sl_R} {o0 : Nat} {x1 x2 : Int} (ho0 : sl_cls o0 = 0) (H : sl_RM M → sl_rg x1 → sl_rg x2 → (sl_rg (x2 + 1)) ∧ sl_RI l mX0_endOfOperand [vR o0 0, vI x1, vI (x2 + 1)] M (fun y3 M2 => sl_RI l mX0_symbol [vR o0 0, vI x1, vI y3] M2 (fun y5 M4 => ((¬ (48 ≤ y5 ∧ y5 ≤ 57)) → Q (some (vI 1)) M4) ∧ ((48 ≤ y5 ∧ y5 ≤ 57) → ((y5 ≠ 48) → sl_At l mX0_mayFailToDivide 12 [(0, vR o0 0), (1, vI x1), (2, vI (x2 + 1))] [] M4 Q) ∧ ((¬ (y5 ≠ 48)) → Q (some (vI 1)) M4))))) : sl_At l mX0_mayFailToDivide 44 [(0, vR o0 0), (1, vI x1), (2, vI x2)] [] M Q := by
  refine sl_At.in (fun hM hls => ?_)
  have g1 : sl_rg x1 := hls _ (List.mem_of_getElem? (i := 1) rfl)
  have g2 : sl_rg x2 := hls _ (List.mem_of_getElem? (i := 2) rfl)
  have H := H hM g1 g2
  refine r_aload_n (k := 0) rfl rfl dX0_mayFailToDivide_44 ?_
  refine r_iload_n (k := 1) rfl rfl dX0_mayFailToDivide_45 ?_
  refine r_aload_n (k := 0) rfl rfl dX0_mayFailToDivide_46 ?_
  refine r_iload_n (k := 1) rfl rfl dX0_mayFailToDivide_47 ?_
  refine r_iload_n (k := 2) rfl rfl dX0_mayFailToDivide_48 ?_
  refine r_iconst dX0_mayFailToDivide_49 ?_
  refine r_iadd dX0_mayFailToDivide_50 ?_
  obtain ⟨c1, H⟩ := H
  refine r_callV (g := mX0_endOfOperand) ckX0 ho0 rfl rfl rfl mkX0_endOfOperand mvX0_endOfOperand ml_X0_103 ⟨by decide, by decide⟩ rfl (Nat.le_of_ble_eq_true rfl) rfl (ok_i g1 (ok_i c1 ok_n)) dX0_mayFailToDivide_51 (sl_afterI (sl_RI.mono (fun y3 M2 gy3 hM2 H => ?_) H))
  refine r_callV (g := mX0_symbol) ckX0 ho0 rfl rfl rfl mkX0_symbol mvX0_symbol ml_X0_100 ⟨by decide, by decide⟩ rfl (Nat.le_of_ble_eq_true rfl) rfl (ok_i g1 (ok_i gy3 ok_n)) dX0_mayFailToDivide_54 (sl_afterI (sl_RI.mono (fun y5 M4 gy5 hM4 H => ?_) H))
  refine r_istore (ls' := [(4, vI y5), (0, vR o0 0), (1, vI x1), (2, vI x2)]) gy5 (by decide) rfl dX0_mayFailToDivide_57 ?_
  refine r_iload (k := 0) rfl dX0_mayFailToDivide_59 ?_
  refine r_callSN (g := mX9_isDigit) rfl mkX9_isDigit msX9_isDigit mn_X0_106 ⟨by decide, by decide⟩ rfl (Nat.le_of_ble_eq_true rfl) rfl (ok_i gy5 ok_n) dX0_mayFailToDivide_61 (sl_afterI (sl_RI.by kX9_isDigit ?_))
  refine r_if_eq (tgt := 74) rg_b dX0_mayFailToDivide_64 (by decide) (fun h6 => ?_) (fun h6 => ?_)
  · have H := H.1 (b_eq0.mp h6)
    refine r_iconst dX0_mayFailToDivide_74 ?_
    refine r_zret rfl (Or.inr rfl) dX0_mayFailToDivide_75 ?_
    exact H
  · have H := H.2 (b_ne0.mp h6)
    refine r_iload (k := 0) rfl dX0_mayFailToDivide_67 ?_
    refine r_bipush dX0_mayFailToDivide_69 (by decide) ?_
    refine r_icmp_ne (tgt := 76) gy5 ⟨by decide, by decide⟩ dX0_mayFailToDivide_71 (by decide) (fun h7 => ?_) (fun h7 => ?_)
    · have H := H.1 h7
      refine r_iinc (k := 3) (ls' := [(2, vI (x2 + 1)), (4, vI y5), (0, vR o0 0), (1, vI x1)]) rfl c1 (by decide) rfl dX0_mayFailToDivide_76 ?_
      refine r_goto (tgt := 12) dX0_mayFailToDivide_79 (by decide) ?_
      exact sl_At.sub [2, 3, 0] rfl H
    · have H := H.2 h7
      refine r_iconst dX0_mayFailToDivide_74 ?_
      refine r_zret rfl (Or.inr rfl) dX0_mayFailToDivide_75 ?_
      exact H
theorem eX0_mayFailToDivide {l : Launch} {M : sl_M} {Q : sl_R} {o0 : Nat} (k : sl_At l mX0_mayFailToDivide 0 [(0, vR o0 0)] [] M Q) : sl_Runs l mX0_mayFailToDivide [vR o0 0] M Q := sl_Runs.of (ls := [(0, vR o0 0)]) rfl rfl (fun _ => rfl) (fun _ => Nat.le_of_ble_eq_true rfl) rfl (k)
theorem dX0_endOfOperand_0 : decode cX0_endOfOperand 0 = .ok (.iconst 1, 1) := by decide +kernel
theorem dX0_endOfOperand_1 : decode cX0_endOfOperand 1 = .ok (.istore_n 3, 1) := by decide +kernel
theorem dX0_endOfOperand_2 : decode cX0_endOfOperand 2 = .ok (.iload_n 2, 1) := by decide +kernel
theorem dX0_endOfOperand_3 : decode cX0_endOfOperand 3 = .ok (.istore 4, 2) := by decide +kernel
theorem dX0_endOfOperand_5 : decode cX0_endOfOperand 5 = .ok (.iload 4, 2) := by decide +kernel
theorem dX0_endOfOperand_7 : decode cX0_endOfOperand 7 = .ok (.aload_n 0, 1) := by decide +kernel
theorem dX0_endOfOperand_8 : decode cX0_endOfOperand 8 = .ok (.getfield 36, 3) := by decide +kernel
theorem dX0_endOfOperand_11 : decode cX0_endOfOperand 11 = .ok (.iload_n 1, 1) := by decide +kernel
theorem dX0_endOfOperand_12 : decode cX0_endOfOperand 12 = .ok (.iaload, 1) := by decide +kernel
theorem dX0_endOfOperand_13 : decode cX0_endOfOperand 13 = .ok (.if_icmp .ge 41, 3) := by decide +kernel
theorem dX0_endOfOperand_16 : decode cX0_endOfOperand 16 = .ok (.iload_n 3, 1) := by decide +kernel
theorem dX0_endOfOperand_17 : decode cX0_endOfOperand 17 = .ok (.ifCond .le 37, 3) := by decide +kernel
theorem dX0_endOfOperand_20 : decode cX0_endOfOperand 20 = .ok (.iload_n 3, 1) := by decide +kernel
theorem dX0_endOfOperand_21 : decode cX0_endOfOperand 21 = .ok (.aload_n 0, 1) := by decide +kernel
theorem dX0_endOfOperand_22 : decode cX0_endOfOperand 22 = .ok (.getfield 42, 3) := by decide +kernel
theorem dX0_endOfOperand_25 : decode cX0_endOfOperand 25 = .ok (.aload_n 0, 1) := by decide +kernel
theorem dX0_endOfOperand_26 : decode cX0_endOfOperand 26 = .ok (.getfield 33, 3) := by decide +kernel
theorem dX0_endOfOperand_29 : decode cX0_endOfOperand 29 = .ok (.iload_n 1, 1) := by decide +kernel
theorem dX0_endOfOperand_30 : decode cX0_endOfOperand 30 = .ok (.iaload, 1) := by decide +kernel
theorem dX0_endOfOperand_31 : decode cX0_endOfOperand 31 = .ok (.iload 4, 2) := by decide +kernel
theorem dX0_endOfOperand_33 : decode cX0_endOfOperand 33 = .ok (.iadd, 1) := by decide +kernel
theorem dX0_endOfOperand_34 : decode cX0_endOfOperand 34 = .ok (.iaload, 1) := by decide +kernel
theorem dX0_endOfOperand_35 : decode cX0_endOfOperand 35 = .ok (.invokestatic 109, 3) := by decide +kernel
theorem dX0_endOfOperand_38 : decode cX0_endOfOperand 38 = .ok (.ifCond .eq 7, 3) := by decide +kernel
theorem dX0_endOfOperand_41 : decode cX0_endOfOperand 41 = .ok (.iconst 1, 1) := by decide +kernel
theorem dX0_endOfOperand_42 : decode cX0_endOfOperand 42 = .ok (.goto 4, 3) := by decide +kernel
theorem dX0_endOfOperand_45 : decode cX0_endOfOperand 45 = .ok (.iconst (-1), 1) := by decide +kernel
theorem dX0_endOfOperand_46 : decode cX0_endOfOperand 46 = .ok (.iadd, 1) := by decide +kernel
theorem dX0_endOfOperand_47 : decode cX0_endOfOperand 47 = .ok (.istore_n 3, 1) := by decide +kernel
theorem dX0_endOfOperand_48 : decode cX0_endOfOperand 48 = .ok (.iinc 4 1, 3) := by decide +kernel
theorem dX0_endOfOperand_51 : decode cX0_endOfOperand 51 = .ok (.goto (-46), 3) := by decide +kernel
theorem dX0_endOfOperand_54 : decode cX0_endOfOperand 54 = .ok (.iload 4, 2) := by decide +kernel
theorem dX0_endOfOperand_56 : decode cX0_endOfOperand 56 = .ok (.ireturn, 1) := by decide +kernel
set_option maxHeartbeats 4000000 in
set_option maxRecDepth 10000 in
theorem vX0_endOfOperand_0 {l : Launch} {M : sl_M} {Q : sl_R} {o0 : Nat} {x1 x2 : Int} (ho0 : sl_cls o0 = 0) (H : sl_RM M → sl_rg x1 → sl_rg x2 → sl_At l mX0_endOfOperand 5 [(0, vR o0 0), (1, vI x1), (3, vI 1), (4, vI x2)] [] M Q) : sl_At l mX0_endOfOperand 0 [(0, vR o0 0), (1, vI x1), (2, vI x2)] [] M Q := by
  refine sl_At.in (fun hM hls => ?_)
  have g1 : sl_rg x1 := hls _ (List.mem_of_getElem? (i := 1) rfl)
  have g2 : sl_rg x2 := hls _ (List.mem_of_getElem? (i := 2) rfl)
  have H := H hM g1 g2
  refine r_iconst dX0_endOfOperand_0 ?_
  refine r_istore_n (ls' := [(3, vI 1), (0, vR o0 0), (1, vI x1), (2, vI x2)]) ⟨by decide, by decide⟩ rfl (by decide) rfl dX0_endOfOperand_1 ?_
  refine r_iload_n (k := 3) rfl rfl dX0_endOfOperand_2 ?_
  refine r_istore (ls' := [(4, vI x2), (3, vI 1), (0, vR o0 0), (1, vI x1), (2, vI x2)]) g2 (by decide) rfl dX0_endOfOperand_3 ?_
  exact sl_At.sub [2, 3, 1, 0] rfl H
set_option maxHeartbeats 4000000 in
set_option maxRecDepth 10000 in
theorem vX0_endOfOperand_5 {l : Launch} {M : sl_M} {Q : sl_R} {o0 : Nat} {x1 x3 x4 : Int} (ho0 : sl_cls o0 = 0) (H : sl_RM M → sl_rg x1 → sl_rg x3 → sl_rg x4 → (0 ≤ x1 ∧ x1 < 40) ∧ ((M o0 9 x1 ≤ x4) → Q (some (vI x4)) M) ∧ ((¬ (M o0 9 x1 ≤ x4)) → ((x3 ≤ 0) → Q (some (vI x4)) M) ∧ ((¬ (x3 ≤ 0)) → (0 ≤ M o0 8 x1 + x4 ∧ M o0 8 x1 + x4 < 160) ∧ (sl_rg (x3 + (if ¬ (sp_op (M o0 11 (M o0 8 x1 + x4))) then (-1) else 1))) ∧ (∀ y7 : Int, y7 = x3 + (if ¬ (sp_op (M o0 11 (M o0 8 x1 + x4))) then (-1) else 1) → (sl_rg (x4 + 1)) ∧ sl_At l mX0_endOfOperand 5 [(0, vR o0 0), (1, vI x1), (3, vI y7), (4, vI (x4 + 1))] [] M Q)))) : sl_At l mX0_endOfOperand 5 [(0, vR o0 0), (1, vI x1), (3, vI x3), (4, vI x4)] [] M Q := by
  refine sl_At.in (fun hM hls => ?_)
  have g1 : sl_rg x1 := hls _ (List.mem_of_getElem? (i := 1) rfl)
  have g3 : sl_rg x3 := hls _ (List.mem_of_getElem? (i := 2) rfl)
  have g4 : sl_rg x4 := hls _ (List.mem_of_getElem? (i := 3) rfl)
  have H := H hM g1 g3 g4
  refine r_iload (k := 3) rfl dX0_endOfOperand_5 ?_
  refine r_aload_n (k := 0) rfl rfl dX0_endOfOperand_7 ?_
  refine r_getR (k := 8) (o' := o0) (i' := 9) ckX0 ho0 rfl (by decide) rfl rfl rfl fl_X0_36 dX0_endOfOperand_8 ?_
  refine r_iload_n (k := 1) rfl rfl dX0_endOfOperand_11 ?_
  obtain ⟨c1, H⟩ := H
  refine r_iald ho0 rfl rfl c1 dX0_endOfOperand_12 ?_
  refine r_icmp_ge (tgt := 54) g4 (hM _ _ _) dX0_endOfOperand_13 (by decide) (fun h2 => ?_) (fun h2 => ?_)
  · have H := H.1 h2
    refine r_iload (k := 3) rfl dX0_endOfOperand_54 ?_
    refine r_iret rfl g4 dX0_endOfOperand_56 ?_
    exact H
  · have H := H.2 h2
    refine r_iload_n (k := 2) rfl rfl dX0_endOfOperand_16 ?_
    refine r_if_le (tgt := 54) g3 dX0_endOfOperand_17 (by decide) (fun h3 => ?_) (fun h3 => ?_)
    · have H := H.1 h3
      refine r_iload (k := 3) rfl dX0_endOfOperand_54 ?_
      refine r_iret rfl g4 dX0_endOfOperand_56 ?_
      exact H
    · have H := H.2 h3
      refine r_iload_n (k := 2) rfl rfl dX0_endOfOperand_20 ?_
      refine r_aload_n (k := 0) rfl rfl dX0_endOfOperand_21 ?_
      refine r_getR (k := 10) (o' := o0) (i' := 11) ckX0 ho0 rfl (by decide) rfl rfl rfl fl_X0_42 dX0_endOfOperand_22 ?_
      refine r_aload_n (k := 0) rfl rfl dX0_endOfOperand_25 ?_
      refine r_getR (k := 7) (o' := o0) (i' := 8) ckX0 ho0 rfl (by decide) rfl rfl rfl fl_X0_33 dX0_endOfOperand_26 ?_
      refine r_iload_n (k := 1) rfl rfl dX0_endOfOperand_29 ?_
      refine r_iald ho0 rfl rfl c1 dX0_endOfOperand_30 ?_
      refine r_iload (k := 3) rfl dX0_endOfOperand_31 ?_
      refine r_iadd dX0_endOfOperand_33 ?_
      obtain ⟨c4, H⟩ := H
      refine r_iald ho0 rfl rfl c4 dX0_endOfOperand_34 ?_
      refine r_callSN (g := mX9_isOperator) rfl mkX9_isOperator msX9_isOperator mn_X0_109 ⟨by decide, by decide⟩ rfl (Nat.le_of_ble_eq_true rfl) rfl (ok_i (hM _ _ _) ok_n) dX0_endOfOperand_35 (sl_afterI (sl_RI.by kX9_isOperator ?_))
      have J : sl_At l mX0_endOfOperand 46 [(0, vR o0 0), (1, vI x1), (3, vI x3), (4, vI x4)] [vI (if ¬ (sp_op (M o0 11 (M o0 8 x1 + x4))) then (-1) else 1), vI x3] M Q := by
        refine r_iadd dX0_endOfOperand_46 ?_
        obtain ⟨c6, H⟩ := H
        refine r_nm (fun y7 fy7 => ?_)
        have H := H y7 fy7
        have gy7 : sl_rg y7 := by rw [fy7]; exact c6
        refine r_istore_n (ls' := [(3, vI y7), (0, vR o0 0), (1, vI x1), (4, vI x4)]) gy7 rfl (by decide) rfl dX0_endOfOperand_47 ?_
        obtain ⟨c8, H⟩ := H
        refine r_iinc (k := 3) (ls' := [(4, vI (x4 + 1)), (3, vI y7), (0, vR o0 0), (1, vI x1)]) rfl c8 (by decide) rfl dX0_endOfOperand_48 ?_
        refine r_goto (tgt := 5) dX0_endOfOperand_51 (by decide) ?_
        exact sl_At.sub [2, 3, 1, 0] rfl H
      refine r_if_eq (tgt := 45) rg_b dX0_endOfOperand_38 (by decide) (fun h5 => ?_) (fun h5 => ?_)
      · replace h5 := (b_eq0.mp h5)
        refine r_iconst dX0_endOfOperand_45 ?_
        rw [if_pos h5] at J
        exact J
      · replace h5 := (b_ne0.mp h5)
        refine r_iconst dX0_endOfOperand_41 ?_
        refine r_goto (tgt := 46) dX0_endOfOperand_42 (by decide) ?_
        rw [if_neg (fun q => q h5)] at J
        exact J
theorem eX0_endOfOperand {l : Launch} {M : sl_M} {Q : sl_R} {o0 : Nat} {x1 x2 : Int} (k : sl_At l mX0_endOfOperand 0 [(0, vR o0 0), (1, vI x1), (2, vI x2)] [] M Q) : sl_Runs l mX0_endOfOperand [vR o0 0, vI x1, vI x2] M Q := sl_Runs.of (ls := [(0, vR o0 0), (1, vI x1), (2, vI x2)]) rfl rfl (fun _ => rfl) (fun _ => Nat.le_of_ble_eq_true rfl) rfl (k)
