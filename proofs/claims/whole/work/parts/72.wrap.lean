/-! Sums that wrap around -/
section R
variable {l : Launch} {f : sl_F} {pc : Nat} {ls : sl_L} {st : List sl_V} {M : sl_M} {Q : sl_R}
theorem r_iaddw {a b : Int} (hd : decode f.cd pc = .ok (.iadd, 1)) (k : sl_At l f (pc + 1) ls (vI (iwrap (a + b)) :: st) M Q) : sl_At l f pc ls (vI b :: vI a :: st) M Q := by
  intro hM hl G p e s m args below meth c C H locs arr hW hS hv
  have k := (k hM hl G p e s m args below meth c C H locs arr hW hS hv)
  have h : Value.int (Int32.ofInt (iwrap (a + b))) = Value.int (Int32.ofInt a + Int32.ofInt b) := by unfold iwrap; rw [Int32.ofInt_toInt, Int32.ofInt_add]
  refine lv_iadd C.1 C.2.1 hd ?_
  rw [← h]
  exact k
theorem r_isubw {a b : Int} (hd : decode f.cd pc = .ok (.isub, 1)) (k : sl_At l f (pc + 1) ls (vI (iwrap (a - b)) :: st) M Q) : sl_At l f pc ls (vI b :: vI a :: st) M Q := by
  intro hM hl G p e s m args below meth c C H locs arr hW hS hv
  have k := (k hM hl G p e s m args below meth c C H locs arr hW hS hv)
  have h : Value.int (Int32.ofInt (iwrap (a - b))) = Value.int (Int32.ofInt a - Int32.ofInt b) := by unfold iwrap; rw [Int32.ofInt_toInt, Int32.ofInt_sub]
  refine lv_isub C.1 C.2.1 hd ?_
  rw [← h]
  exact k
theorem r_imulw {a b : Int} (hd : decode f.cd pc = .ok (.imul, 1)) (k : sl_At l f (pc + 1) ls (vI (iwrap (a * b)) :: st) M Q) : sl_At l f pc ls (vI b :: vI a :: st) M Q := by
  intro hM hl G p e s m args below meth c C H locs arr hW hS hv
  have k := (k hM hl G p e s m args below meth c C H locs arr hW hS hv)
  have h : Value.int (Int32.ofInt (iwrap (a * b))) = Value.int (Int32.ofInt a * Int32.ofInt b) := by unfold iwrap; rw [Int32.ofInt_toInt, Int32.ofInt_mul]
  refine lv_imul C.1 C.2.1 hd ?_
  rw [← h]
  exact k
end R
set_option maxHeartbeats 4000000 in
set_option maxRecDepth 10000 in
theorem wX10_done_0 {l : Launch} {M : sl_M} {Q : sl_R} {x0 x1 x2 : Int} (H : sl_RM M → sl_rg x0 → sl_rg x1 → sl_rg x2 → ((x0 = 37) → (x2 ≠ 0) ∧ Q (some (vI (irem x1 x2))) M) ∧ ((x0 = 42) → Q (some (vI (iwrap (x1 * x2)))) M) ∧ ((x0 = 43) → Q (some (vI (iwrap (x1 + x2)))) M) ∧ ((x0 = 45) → Q (some (vI (iwrap (x1 - x2)))) M) ∧ ((x0 = 47) → (x2 ≠ 0) ∧ Q (some (vI (idiv x1 x2))) M) ∧ ((x0 = 60) → Q (some (vI (if ¬ (x2 ≤ x1) then 1 else 0))) M) ∧ ((¬ (x0 = 37) ∧ ¬ (x0 = 42) ∧ ¬ (x0 = 43) ∧ ¬ (x0 = 45) ∧ ¬ (x0 = 47) ∧ ¬ (x0 = 60)) → Q (some (vI (if ¬ (x1 ≠ x2) then 1 else 0))) M)) : sl_At l mX10_done 0 [(0, vI x0), (1, vI x1), (2, vI x2)] [] M Q := by
  refine sl_At.in (fun hM hls => ?_)
  have g0 : sl_rg x0 := hls _ (List.mem_of_getElem? (i := 0) rfl)
  have g1 : sl_rg x1 := hls _ (List.mem_of_getElem? (i := 1) rfl)
  have g2 : sl_rg x2 := hls _ (List.mem_of_getElem? (i := 2) rfl)
  have H := H hM g0 g1 g2
  refine r_iload_n (k := 0) rfl rfl dX10_done_0 ?_
  by_cases h1 : x0 = 37
  · refine r_ls (tgt := 76) (off := 75) g0 dX10_done_1 (by decide) (by rw [h1]; decide +kernel) (by decide) ?_
    have H := H.1 h1
    refine r_iload_n (k := 1) rfl rfl dX10_done_76 ?_
    refine r_iload_n (k := 2) rfl rfl dX10_done_77 ?_
    obtain ⟨c2, H⟩ := H
    refine r_irem g2 c2 dX10_done_78 ?_
    refine r_iret rfl (rg_irem _ _) dX10_done_79 ?_
    exact H
  replace H := H.2
  by_cases h3 : x0 = 42
  · refine r_ls (tgt := 68) (off := 67) g0 dX10_done_1 (by decide) (by rw [h3]; decide +kernel) (by decide) ?_
    have H := H.1 h3
    refine r_iload_n (k := 1) rfl rfl dX10_done_68 ?_
    refine r_iload_n (k := 2) rfl rfl dX10_done_69 ?_
    refine r_imulw dX10_done_70 ?_
    refine r_iret rfl (rg_iwrap _) dX10_done_71 ?_
    exact H
  replace H := H.2
  by_cases h4 : x0 = 43
  · refine r_ls (tgt := 60) (off := 59) g0 dX10_done_1 (by decide) (by rw [h4]; decide +kernel) (by decide) ?_
    have H := H.1 h4
    refine r_iload_n (k := 1) rfl rfl dX10_done_60 ?_
    refine r_iload_n (k := 2) rfl rfl dX10_done_61 ?_
    refine r_iaddw dX10_done_62 ?_
    refine r_iret rfl (rg_iwrap _) dX10_done_63 ?_
    exact H
  replace H := H.2
  by_cases h5 : x0 = 45
  · refine r_ls (tgt := 64) (off := 63) g0 dX10_done_1 (by decide) (by rw [h5]; decide +kernel) (by decide) ?_
    have H := H.1 h5
    refine r_iload_n (k := 1) rfl rfl dX10_done_64 ?_
    refine r_iload_n (k := 2) rfl rfl dX10_done_65 ?_
    refine r_isubw dX10_done_66 ?_
    refine r_iret rfl (rg_iwrap _) dX10_done_67 ?_
    exact H
  replace H := H.2
  by_cases h6 : x0 = 47
  · refine r_ls (tgt := 72) (off := 71) g0 dX10_done_1 (by decide) (by rw [h6]; decide +kernel) (by decide) ?_
    have H := H.1 h6
    refine r_iload_n (k := 1) rfl rfl dX10_done_72 ?_
    refine r_iload_n (k := 2) rfl rfl dX10_done_73 ?_
    obtain ⟨c7, H⟩ := H
    refine r_idiv g2 c7 dX10_done_74 ?_
    refine r_iret rfl (rg_idiv _ _) dX10_done_75 ?_
    exact H
  replace H := H.2
  by_cases h8 : x0 = 60
  · refine r_ls (tgt := 80) (off := 79) g0 dX10_done_1 (by decide) (by rw [h8]; decide +kernel) (by decide) ?_
    have H := H.1 h8
    refine r_iload_n (k := 1) rfl rfl dX10_done_80 ?_
    refine r_iload_n (k := 2) rfl rfl dX10_done_81 ?_
    have J : sl_At l mX10_done 90 [(0, vI x0), (1, vI x1), (2, vI x2)] [vI (if ¬ (x2 ≤ x1) then 1 else 0)] M Q := by
      refine r_iret rfl rg_b dX10_done_90 ?_
      exact H
    refine r_icmp_ge (tgt := 89) g1 g2 dX10_done_82 (by decide) (fun h9 => ?_) (fun h9 => ?_)
    · refine r_iconst dX10_done_89 ?_
      rw [if_neg (show ¬ (¬ (x2 ≤ x1)) by omega)] at J
      exact J
    · refine r_iconst dX10_done_85 ?_
      refine r_goto (tgt := 90) dX10_done_86 (by decide) ?_
      rw [if_pos (show ¬ (x2 ≤ x1) by omega)] at J
      exact J
  replace H := H.2
  refine r_ls (tgt := 91) (off := 90) g0 dX10_done_1 (by decide) ?_ (by decide) ?_
  · show Op.lookupswitch.offset [(37, 75), (42, 67), (43, 59), (45, 63), (47, 71), (60, 79)] _ _ = _
    rw [sl_osw h1, sl_osw h3, sl_osw h4, sl_osw h5, sl_osw h6, sl_osw h8]; rfl
  · have H := H ⟨h1, h3, h4, h5, h6, h8⟩
    refine r_iload_n (k := 1) rfl rfl dX10_done_91 ?_
    refine r_iload_n (k := 2) rfl rfl dX10_done_92 ?_
    have J : sl_At l mX10_done 101 [(0, vI x0), (1, vI x1), (2, vI x2)] [vI (if ¬ (x1 ≠ x2) then 1 else 0)] M Q := by
      refine r_iret rfl rg_b dX10_done_101 ?_
      exact H
    refine r_icmp_ne (tgt := 100) g1 g2 dX10_done_93 (by decide) (fun h10 => ?_) (fun h10 => ?_)
    · refine r_iconst dX10_done_100 ?_
      rw [if_neg (show ¬ (¬ (x1 ≠ x2)) by omega)] at J
      exact J
    · refine r_iconst dX10_done_96 ?_
      refine r_goto (tgt := 101) dX10_done_97 (by decide) ?_
      rw [if_pos (show ¬ (x1 ≠ x2) by omega)] at J
      exact J
set_option maxHeartbeats 4000000 in
set_option maxRecDepth 10000 in
theorem wX3_apply_0 {l : Launch} {M : sl_M} {Q : sl_R} {x1 x2 x3 : Int} (H : sl_RM M → sl_rg x1 → sl_rg x2 → sl_rg x3 → ((x1 = 47) → ((x3 ≠ 0) → sl_At l mX3_apply 23 [(1, vI x1), (2, vI x2), (3, vI x3)] [] M Q) ∧ ((¬ (x3 ≠ 0)) → (∀ M3, M3 = sl_wr M 3 0 6 1 → Q (some (vI 0)) M3))) ∧ ((¬ (x1 = 47)) → ((x1 ≠ 37) → sl_At l mX3_apply 23 [(1, vI x1), (2, vI x2), (3, vI x3)] [] M Q) ∧ ((¬ (x1 ≠ 37)) → ((x3 ≠ 0) → sl_At l mX3_apply 23 [(1, vI x1), (2, vI x2), (3, vI x3)] [] M Q) ∧ ((¬ (x3 ≠ 0)) → (∀ M6, M6 = sl_wr M 3 0 6 1 → Q (some (vI 0)) M6))))) : sl_At l mX3_apply 0 [(0, vR 3 0), (1, vI x1), (2, vI x2), (3, vI x3)] [] M Q := by
  refine sl_At.in (fun hM hls => ?_)
  have g1 : sl_rg x1 := hls _ (List.mem_of_getElem? (i := 1) rfl)
  have g2 : sl_rg x2 := hls _ (List.mem_of_getElem? (i := 2) rfl)
  have g3 : sl_rg x3 := hls _ (List.mem_of_getElem? (i := 3) rfl)
  have H := H hM g1 g2 g3
  refine r_iload_n (k := 1) rfl rfl dX3_apply_0 ?_
  refine r_bipush dX3_apply_1 (by decide) ?_
  refine r_icmp_eq (tgt := 12) g1 ⟨by decide, by decide⟩ dX3_apply_3 (by decide) (fun h1 => ?_) (fun h1 => ?_)
  · have H := H.1 h1
    refine r_iload_n (k := 3) rfl rfl dX3_apply_12 ?_
    refine r_if_ne (tgt := 23) g3 dX3_apply_13 (by decide) (fun h2 => ?_) (fun h2 => ?_)
    · have H := H.1 h2
      exact sl_At.sub [1, 2, 3] rfl H
    · have H := H.2 h2
      refine r_aload_n (k := 0) rfl rfl dX3_apply_16 ?_
      refine r_iconst dX3_apply_17 ?_
      refine r_pI (k := 6) (kz := 6) rfl ckX3 rfl rfl (by decide) rfl rfl rfl rfl fl_X3_52 ⟨by decide, by decide⟩ dX3_apply_18 ?_
      refine r_mm (fun M3 e3 => ?_)
      have H := H M3 e3
      have hM3 : sl_RM M3 := by rw [e3]; exact sl_wr_RM hM ⟨by decide, by decide⟩
      refine r_iconst dX3_apply_21 ?_
      refine r_iret rfl ⟨by decide, by decide⟩ dX3_apply_22 ?_
      exact H
  · have H := H.2 h1
    refine r_iload_n (k := 1) rfl rfl dX3_apply_6 ?_
    refine r_bipush dX3_apply_7 (by decide) ?_
    refine r_icmp_ne (tgt := 23) g1 ⟨by decide, by decide⟩ dX3_apply_9 (by decide) (fun h4 => ?_) (fun h4 => ?_)
    · have H := H.1 h4
      exact sl_At.sub [1, 2, 3] rfl H
    · have H := H.2 h4
      refine r_iload_n (k := 3) rfl rfl dX3_apply_12 ?_
      refine r_if_ne (tgt := 23) g3 dX3_apply_13 (by decide) (fun h5 => ?_) (fun h5 => ?_)
      · have H := H.1 h5
        exact sl_At.sub [1, 2, 3] rfl H
      · have H := H.2 h5
        refine r_aload_n (k := 0) rfl rfl dX3_apply_16 ?_
        refine r_iconst dX3_apply_17 ?_
        refine r_pI (k := 6) (kz := 6) rfl ckX3 rfl rfl (by decide) rfl rfl rfl rfl fl_X3_52 ⟨by decide, by decide⟩ dX3_apply_18 ?_
        refine r_mm (fun M6 e6 => ?_)
        have H := H M6 e6
        have hM6 : sl_RM M6 := by rw [e6]; exact sl_wr_RM hM ⟨by decide, by decide⟩
        refine r_iconst dX3_apply_21 ?_
        refine r_iret rfl ⟨by decide, by decide⟩ dX3_apply_22 ?_
        exact H
set_option maxHeartbeats 4000000 in
set_option maxRecDepth 10000 in
theorem wX3_apply_23 {l : Launch} {M : sl_M} {Q : sl_R} {x1 x2 x3 : Int} (H : sl_RM M → sl_rg x1 → sl_rg x2 → sl_rg x3 → ((x1 = 37) → ((x3 ≠ 0) → (x3 ≠ 0) ∧ Q (some (vI (irem x2 x3))) M) ∧ ((¬ (x3 ≠ 0)) → Q (some (vI 0)) M)) ∧ ((x1 = 42) → Q (some (vI (iwrap (x2 * x3)))) M) ∧ ((x1 = 43) → Q (some (vI (iwrap (x2 + x3)))) M) ∧ ((x1 = 45) → Q (some (vI (iwrap (x2 - x3)))) M) ∧ ((x1 = 47) → ((x3 ≠ 0) → (x3 ≠ 0) ∧ Q (some (vI (idiv x2 x3))) M) ∧ ((¬ (x3 ≠ 0)) → Q (some (vI 0)) M)) ∧ ((x1 = 60) → Q (some (vI (if ¬ (x3 ≤ x2) then 1 else 0))) M) ∧ ((¬ (x1 = 37) ∧ ¬ (x1 = 42) ∧ ¬ (x1 = 43) ∧ ¬ (x1 = 45) ∧ ¬ (x1 = 47) ∧ ¬ (x1 = 60)) → Q (some (vI (if ¬ (x2 ≠ x3) then 1 else 0))) M)) : sl_At l mX3_apply 23 [(1, vI x1), (2, vI x2), (3, vI x3)] [] M Q := by
  refine sl_At.in (fun hM hls => ?_)
  have g1 : sl_rg x1 := hls _ (List.mem_of_getElem? (i := 0) rfl)
  have g2 : sl_rg x2 := hls _ (List.mem_of_getElem? (i := 1) rfl)
  have g3 : sl_rg x3 := hls _ (List.mem_of_getElem? (i := 2) rfl)
  have H := H hM g1 g2 g3
  refine r_iload_n (k := 0) rfl rfl dX3_apply_23 ?_
  by_cases h1 : x1 = 37
  · refine r_ls (tgt := 108) (off := 84) g1 dX3_apply_24 (by decide) (by rw [h1]; decide +kernel) (by decide) ?_
    have H := H.1 h1
    refine r_iload_n (k := 2) rfl rfl dX3_apply_108 ?_
    refine r_if_ne (tgt := 116) g3 dX3_apply_109 (by decide) (fun h2 => ?_) (fun h2 => ?_)
    · have H := H.1 h2
      refine r_iload_n (k := 1) rfl rfl dX3_apply_116 ?_
      refine r_iload_n (k := 2) rfl rfl dX3_apply_117 ?_
      obtain ⟨c3, H⟩ := H
      refine r_irem g3 c3 dX3_apply_118 ?_
      refine r_iret rfl (rg_irem _ _) dX3_apply_119 ?_
      exact H
    · have H := H.2 h2
      refine r_iconst dX3_apply_112 ?_
      refine r_goto (tgt := 119) dX3_apply_113 (by decide) ?_
      refine r_iret rfl ⟨by decide, by decide⟩ dX3_apply_119 ?_
      exact H
  replace H := H.2
  by_cases h4 : x1 = 42
  · refine r_ls (tgt := 92) (off := 68) g1 dX3_apply_24 (by decide) (by rw [h4]; decide +kernel) (by decide) ?_
    have H := H.1 h4
    refine r_iload_n (k := 1) rfl rfl dX3_apply_92 ?_
    refine r_iload_n (k := 2) rfl rfl dX3_apply_93 ?_
    refine r_imulw dX3_apply_94 ?_
    refine r_iret rfl (rg_iwrap _) dX3_apply_95 ?_
    exact H
  replace H := H.2
  by_cases h5 : x1 = 43
  · refine r_ls (tgt := 84) (off := 60) g1 dX3_apply_24 (by decide) (by rw [h5]; decide +kernel) (by decide) ?_
    have H := H.1 h5
    refine r_iload_n (k := 1) rfl rfl dX3_apply_84 ?_
    refine r_iload_n (k := 2) rfl rfl dX3_apply_85 ?_
    refine r_iaddw dX3_apply_86 ?_
    refine r_iret rfl (rg_iwrap _) dX3_apply_87 ?_
    exact H
  replace H := H.2
  by_cases h6 : x1 = 45
  · refine r_ls (tgt := 88) (off := 64) g1 dX3_apply_24 (by decide) (by rw [h6]; decide +kernel) (by decide) ?_
    have H := H.1 h6
    refine r_iload_n (k := 1) rfl rfl dX3_apply_88 ?_
    refine r_iload_n (k := 2) rfl rfl dX3_apply_89 ?_
    refine r_isubw dX3_apply_90 ?_
    refine r_iret rfl (rg_iwrap _) dX3_apply_91 ?_
    exact H
  replace H := H.2
  by_cases h7 : x1 = 47
  · refine r_ls (tgt := 96) (off := 72) g1 dX3_apply_24 (by decide) (by rw [h7]; decide +kernel) (by decide) ?_
    have H := H.1 h7
    refine r_iload_n (k := 2) rfl rfl dX3_apply_96 ?_
    refine r_if_ne (tgt := 104) g3 dX3_apply_97 (by decide) (fun h8 => ?_) (fun h8 => ?_)
    · have H := H.1 h8
      refine r_iload_n (k := 1) rfl rfl dX3_apply_104 ?_
      refine r_iload_n (k := 2) rfl rfl dX3_apply_105 ?_
      obtain ⟨c9, H⟩ := H
      refine r_idiv g3 c9 dX3_apply_106 ?_
      refine r_iret rfl (rg_idiv _ _) dX3_apply_107 ?_
      exact H
    · have H := H.2 h8
      refine r_iconst dX3_apply_100 ?_
      refine r_goto (tgt := 107) dX3_apply_101 (by decide) ?_
      refine r_iret rfl ⟨by decide, by decide⟩ dX3_apply_107 ?_
      exact H
  replace H := H.2
  by_cases h10 : x1 = 60
  · refine r_ls (tgt := 120) (off := 96) g1 dX3_apply_24 (by decide) (by rw [h10]; decide +kernel) (by decide) ?_
    have H := H.1 h10
    refine r_iload_n (k := 1) rfl rfl dX3_apply_120 ?_
    refine r_iload_n (k := 2) rfl rfl dX3_apply_121 ?_
    have J : sl_At l mX3_apply 130 [(1, vI x1), (2, vI x2), (3, vI x3)] [vI (if ¬ (x3 ≤ x2) then 1 else 0)] M Q := by
      refine r_iret rfl rg_b dX3_apply_130 ?_
      exact H
    refine r_icmp_ge (tgt := 129) g2 g3 dX3_apply_122 (by decide) (fun h11 => ?_) (fun h11 => ?_)
    · refine r_iconst dX3_apply_129 ?_
      rw [if_neg (show ¬ (¬ (x3 ≤ x2)) by omega)] at J
      exact J
    · refine r_iconst dX3_apply_125 ?_
      refine r_goto (tgt := 130) dX3_apply_126 (by decide) ?_
      rw [if_pos (show ¬ (x3 ≤ x2) by omega)] at J
      exact J
  replace H := H.2
  refine r_ls (tgt := 131) (off := 107) g1 dX3_apply_24 (by decide) ?_ (by decide) ?_
  · show Op.lookupswitch.offset [(37, 84), (42, 68), (43, 60), (45, 64), (47, 72), (60, 96)] _ _ = _
    rw [sl_osw h1, sl_osw h4, sl_osw h5, sl_osw h6, sl_osw h7, sl_osw h10]; rfl
  · have H := H ⟨h1, h4, h5, h6, h7, h10⟩
    refine r_iload_n (k := 1) rfl rfl dX3_apply_131 ?_
    refine r_iload_n (k := 2) rfl rfl dX3_apply_132 ?_
    have J : sl_At l mX3_apply 141 [(1, vI x1), (2, vI x2), (3, vI x3)] [vI (if ¬ (x2 ≠ x3) then 1 else 0)] M Q := by
      refine r_iret rfl rg_b dX3_apply_141 ?_
      exact H
    refine r_icmp_ne (tgt := 140) g2 g3 dX3_apply_133 (by decide) (fun h12 => ?_) (fun h12 => ?_)
    · refine r_iconst dX3_apply_140 ?_
      rw [if_neg (show ¬ (¬ (x2 ≠ x3)) by omega)] at J
      exact J
    · refine r_iconst dX3_apply_136 ?_
      refine r_goto (tgt := 141) dX3_apply_137 (by decide) ?_
      rw [if_pos (show ¬ (x2 ≠ x3) by omega)] at J
      exact J
