theorem dX10_lengthOf_0 : decode cX10_lengthOf 0 = .ok (.iconst 1, 1) := by decide +kernel
theorem dX10_lengthOf_1 : decode cX10_lengthOf 1 = .ok (.istore_n 3, 1) := by decide +kernel
theorem dX10_lengthOf_2 : decode cX10_lengthOf 2 = .ok (.iload_n 1, 1) := by decide +kernel
theorem dX10_lengthOf_3 : decode cX10_lengthOf 3 = .ok (.istore 4, 2) := by decide +kernel
theorem dX10_lengthOf_5 : decode cX10_lengthOf 5 = .ok (.iload 4, 2) := by decide +kernel
theorem dX10_lengthOf_7 : decode cX10_lengthOf 7 = .ok (.iload_n 2, 1) := by decide +kernel
theorem dX10_lengthOf_8 : decode cX10_lengthOf 8 = .ok (.if_icmp .eq 18, 3) := by decide +kernel
theorem dX10_lengthOf_11 : decode cX10_lengthOf 11 = .ok (.iinc 3 1, 3) := by decide +kernel
theorem dX10_lengthOf_14 : decode cX10_lengthOf 14 = .ok (.aload_n 0, 1) := by decide +kernel
theorem dX10_lengthOf_15 : decode cX10_lengthOf 15 = .ok (.getfield 40, 3) := by decide +kernel
theorem dX10_lengthOf_18 : decode cX10_lengthOf 18 = .ok (.iload 4, 2) := by decide +kernel
theorem dX10_lengthOf_20 : decode cX10_lengthOf 20 = .ok (.iaload, 1) := by decide +kernel
theorem dX10_lengthOf_21 : decode cX10_lengthOf 21 = .ok (.istore 4, 2) := by decide +kernel
theorem dX10_lengthOf_23 : decode cX10_lengthOf 23 = .ok (.goto (-18), 3) := by decide +kernel
theorem dX10_lengthOf_26 : decode cX10_lengthOf 26 = .ok (.iload_n 3, 1) := by decide +kernel
theorem dX10_lengthOf_27 : decode cX10_lengthOf 27 = .ok (.ireturn, 1) := by decide +kernel
set_option maxHeartbeats 4000000 in
set_option maxRecDepth 10000 in
theorem vX10_lengthOf_0 {l : Launch} {M : sl_M} {Q : sl_R} {x1 x2 : Int} (H : sl_RM M → sl_rg x1 → sl_rg x2 → sl_At l mX10_lengthOf 5 [(0, vR 1 0), (2, vI x2), (3, vI 1), (4, vI x1)] [] M Q) : sl_At l mX10_lengthOf 0 [(0, vR 1 0), (1, vI x1), (2, vI x2)] [] M Q := by
  refine sl_At.in (fun hM hls => ?_)
  have g1 : sl_rg x1 := hls _ (List.mem_of_getElem? (i := 1) rfl)
  have g2 : sl_rg x2 := hls _ (List.mem_of_getElem? (i := 2) rfl)
  have H := H hM g1 g2
  refine r_iconst dX10_lengthOf_0 ?_
  refine r_istore_n (ls' := [(3, vI 1), (0, vR 1 0), (1, vI x1), (2, vI x2)]) ⟨by decide, by decide⟩ rfl (by decide) rfl dX10_lengthOf_1 ?_
  refine r_iload_n (k := 2) rfl rfl dX10_lengthOf_2 ?_
  refine r_istore (ls' := [(4, vI x1), (3, vI 1), (0, vR 1 0), (1, vI x1), (2, vI x2)]) g1 (by decide) rfl dX10_lengthOf_3 ?_
  exact sl_At.sub [2, 4, 1, 0] rfl H
set_option maxHeartbeats 4000000 in
set_option maxRecDepth 10000 in
theorem vX10_lengthOf_5 {l : Launch} {M : sl_M} {Q : sl_R} {x2 x3 x4 : Int} (H : sl_RM M → sl_rg x2 → sl_rg x3 → sl_rg x4 → ((x4 = x2) → Q (some (vI x3)) M) ∧ ((¬ (x4 = x2)) → (sl_rg (x3 + 1)) ∧ (0 ≤ x4 ∧ x4 < 82) ∧ sl_At l mX10_lengthOf 5 [(0, vR 1 0), (2, vI x2), (3, vI (x3 + 1)), (4, vI (M 1 20 x4))] [] M Q)) : sl_At l mX10_lengthOf 5 [(0, vR 1 0), (2, vI x2), (3, vI x3), (4, vI x4)] [] M Q := by
  refine sl_At.in (fun hM hls => ?_)
  have g2 : sl_rg x2 := hls _ (List.mem_of_getElem? (i := 1) rfl)
  have g3 : sl_rg x3 := hls _ (List.mem_of_getElem? (i := 2) rfl)
  have g4 : sl_rg x4 := hls _ (List.mem_of_getElem? (i := 3) rfl)
  have H := H hM g2 g3 g4
  refine r_iload (k := 3) rfl dX10_lengthOf_5 ?_
  refine r_iload_n (k := 1) rfl rfl dX10_lengthOf_7 ?_
  refine r_icmp_eq (tgt := 26) g4 g2 dX10_lengthOf_8 (by decide) (fun h1 => ?_) (fun h1 => ?_)
  · have H := H.1 h1
    refine r_iload_n (k := 2) rfl rfl dX10_lengthOf_26 ?_
    refine r_iret rfl g3 dX10_lengthOf_27 ?_
    exact H
  · have H := H.2 h1
    obtain ⟨c2, H⟩ := H
    refine r_iinc (k := 2) (ls' := [(3, vI (x3 + 1)), (0, vR 1 0), (2, vI x2), (4, vI x4)]) rfl c2 (by decide) rfl dX10_lengthOf_11 ?_
    refine r_aload_n (k := 1) rfl rfl dX10_lengthOf_14 ?_
    refine r_getR (k := 19) (o' := 1) (i' := 20) ckX10 rfl rfl (by decide) rfl rfl rfl fl_X10_40 dX10_lengthOf_15 ?_
    refine r_iload (k := 3) rfl dX10_lengthOf_18 ?_
    obtain ⟨c3, H⟩ := H
    refine r_iald rfl rfl rfl c3 dX10_lengthOf_20 ?_
    refine r_istore (ls' := [(4, vI (M 1 20 x4)), (3, vI (x3 + 1)), (0, vR 1 0), (2, vI x2)]) (hM _ _ _) (by decide) rfl dX10_lengthOf_21 ?_
    refine r_goto (tgt := 5) dX10_lengthOf_23 (by decide) ?_
    exact sl_At.sub [2, 3, 1, 0] rfl H
theorem eX10_lengthOf {l : Launch} {M : sl_M} {Q : sl_R} {x1 x2 : Int} (k : sl_At l mX10_lengthOf 0 [(0, vR 1 0), (1, vI x1), (2, vI x2)] [] M Q) : sl_Runs l mX10_lengthOf [vR 1 0, vI x1, vI x2] M Q := sl_Runs.of (ls := [(0, vR 1 0), (1, vI x1), (2, vI x2)]) rfl rfl (fun _ => rfl) (fun _ => Nat.le_of_ble_eq_true rfl) rfl (k)
theorem dX10_lastOf_0 : decode cX10_lastOf 0 = .ok (.iload_n 1, 1) := by decide +kernel
theorem dX10_lastOf_1 : decode cX10_lastOf 1 = .ok (.istore_n 3, 1) := by decide +kernel
theorem dX10_lastOf_2 : decode cX10_lastOf 2 = .ok (.iconst 1, 1) := by decide +kernel
theorem dX10_lastOf_3 : decode cX10_lastOf 3 = .ok (.istore 4, 2) := by decide +kernel
theorem dX10_lastOf_5 : decode cX10_lastOf 5 = .ok (.iload 4, 2) := by decide +kernel
theorem dX10_lastOf_7 : decode cX10_lastOf 7 = .ok (.iload_n 2, 1) := by decide +kernel
theorem dX10_lastOf_8 : decode cX10_lastOf 8 = .ok (.if_icmp .ge 43, 3) := by decide +kernel
theorem dX10_lastOf_11 : decode cX10_lastOf 11 = .ok (.aload_n 0, 1) := by decide +kernel
theorem dX10_lastOf_12 : decode cX10_lastOf 12 = .ok (.getfield 40, 3) := by decide +kernel
theorem dX10_lastOf_15 : decode cX10_lastOf 15 = .ok (.iload_n 3, 1) := by decide +kernel
theorem dX10_lastOf_16 : decode cX10_lastOf 16 = .ok (.iaload, 1) := by decide +kernel
theorem dX10_lastOf_17 : decode cX10_lastOf 17 = .ok (.istore 5, 2) := by decide +kernel
theorem dX10_lastOf_19 : decode cX10_lastOf 19 = .ok (.iload 5, 2) := by decide +kernel
theorem dX10_lastOf_21 : decode cX10_lastOf 21 = .ok (.aload_n 0, 1) := by decide +kernel
theorem dX10_lastOf_22 : decode cX10_lastOf 22 = .ok (.iconst 0, 1) := by decide +kernel
theorem dX10_lastOf_23 : decode cX10_lastOf 23 = .ok (.invokevirtual 201, 3) := by decide +kernel
theorem dX10_lastOf_26 : decode cX10_lastOf 26 = .ok (.if_icmp .ge 14, 3) := by decide +kernel
theorem dX10_lastOf_29 : decode cX10_lastOf 29 = .ok (.aload_n 0, 1) := by decide +kernel
theorem dX10_lastOf_30 : decode cX10_lastOf 30 = .ok (.iconst 0, 1) := by decide +kernel
theorem dX10_lastOf_31 : decode cX10_lastOf 31 = .ok (.iload_n 1, 1) := by decide +kernel
theorem dX10_lastOf_32 : decode cX10_lastOf 32 = .ok (.iload 5, 2) := by decide +kernel
theorem dX10_lastOf_34 : decode cX10_lastOf 34 = .ok (.invokevirtual 204, 3) := by decide +kernel
theorem dX10_lastOf_37 : decode cX10_lastOf 37 = .ok (.ifCond .ne 5, 3) := by decide +kernel
theorem dX10_lastOf_40 : decode cX10_lastOf 40 = .ok (.iconst (-1), 1) := by decide +kernel
theorem dX10_lastOf_41 : decode cX10_lastOf 41 = .ok (.ireturn, 1) := by decide +kernel
theorem dX10_lastOf_42 : decode cX10_lastOf 42 = .ok (.iload 5, 2) := by decide +kernel
theorem dX10_lastOf_44 : decode cX10_lastOf 44 = .ok (.istore_n 3, 1) := by decide +kernel
theorem dX10_lastOf_45 : decode cX10_lastOf 45 = .ok (.iinc 4 1, 3) := by decide +kernel
theorem dX10_lastOf_48 : decode cX10_lastOf 48 = .ok (.goto (-43), 3) := by decide +kernel
theorem dX10_lastOf_51 : decode cX10_lastOf 51 = .ok (.iload_n 3, 1) := by decide +kernel
theorem dX10_lastOf_52 : decode cX10_lastOf 52 = .ok (.ireturn, 1) := by decide +kernel
set_option maxHeartbeats 4000000 in
set_option maxRecDepth 10000 in
theorem vX10_lastOf_0 {l : Launch} {M : sl_M} {Q : sl_R} {x1 x2 : Int} (H : sl_RM M → sl_rg x1 → sl_rg x2 → sl_At l mX10_lastOf 5 [(0, vR 1 0), (1, vI x1), (2, vI x2), (3, vI x1), (4, vI 1)] [] M Q) : sl_At l mX10_lastOf 0 [(0, vR 1 0), (1, vI x1), (2, vI x2)] [] M Q := by
  refine sl_At.in (fun hM hls => ?_)
  have g1 : sl_rg x1 := hls _ (List.mem_of_getElem? (i := 1) rfl)
  have g2 : sl_rg x2 := hls _ (List.mem_of_getElem? (i := 2) rfl)
  have H := H hM g1 g2
  refine r_iload_n (k := 1) rfl rfl dX10_lastOf_0 ?_
  refine r_istore_n (ls' := [(3, vI x1), (0, vR 1 0), (1, vI x1), (2, vI x2)]) g1 rfl (by decide) rfl dX10_lastOf_1 ?_
  refine r_iconst dX10_lastOf_2 ?_
  refine r_istore (ls' := [(4, vI 1), (3, vI x1), (0, vR 1 0), (1, vI x1), (2, vI x2)]) ⟨by decide, by decide⟩ (by decide) rfl dX10_lastOf_3 ?_
  exact sl_At.sub [2, 3, 4, 1, 0] rfl H
set_option maxHeartbeats 4000000 in
set_option maxRecDepth 10000 in
theorem vX10_lastOf_5 {l : Launch} {M : sl_M} {Q : sl_R} {x1 x2 x3 x4 : Int} (H : sl_RM M → sl_rg x1 → sl_rg x2 → sl_rg x3 → sl_rg x4 → ((x2 ≤ x4) → Q (some (vI x3)) M) ∧ ((¬ (x2 ≤ x4)) → (0 ≤ x3 ∧ x3 < 82) ∧ sl_RI l mX10_manyOf [vR 1 0, vI 0] M (fun y4 M3 => ((y4 ≤ M 1 20 x3) → Q (some (vI (-1))) M3) ∧ ((¬ (y4 ≤ M 1 20 x3)) → sl_RI l mX10_areOfBlock [vR 1 0, vI 0, vI x1, vI (M 1 20 x3)] M3 (fun y7 M6 => ((y7 ≠ 0) → (sl_rg (x4 + 1)) ∧ sl_At l mX10_lastOf 5 [(0, vR 1 0), (1, vI x1), (2, vI x2), (3, vI (M 1 20 x3)), (4, vI (x4 + 1))] [] M6 Q) ∧ ((¬ (y7 ≠ 0)) → Q (some (vI (-1))) M6)))))) : sl_At l mX10_lastOf 5 [(0, vR 1 0), (1, vI x1), (2, vI x2), (3, vI x3), (4, vI x4)] [] M Q := by
  refine sl_At.in (fun hM hls => ?_)
  have g1 : sl_rg x1 := hls _ (List.mem_of_getElem? (i := 1) rfl)
  have g2 : sl_rg x2 := hls _ (List.mem_of_getElem? (i := 2) rfl)
  have g3 : sl_rg x3 := hls _ (List.mem_of_getElem? (i := 3) rfl)
  have g4 : sl_rg x4 := hls _ (List.mem_of_getElem? (i := 4) rfl)
  have H := H hM g1 g2 g3 g4
  refine r_iload (k := 4) rfl dX10_lastOf_5 ?_
  refine r_iload_n (k := 2) rfl rfl dX10_lastOf_7 ?_
  refine r_icmp_ge (tgt := 51) g4 g2 dX10_lastOf_8 (by decide) (fun h1 => ?_) (fun h1 => ?_)
  · have H := H.1 h1
    refine r_iload_n (k := 3) rfl rfl dX10_lastOf_51 ?_
    refine r_iret rfl g3 dX10_lastOf_52 ?_
    exact H
  · have H := H.2 h1
    refine r_aload_n (k := 0) rfl rfl dX10_lastOf_11 ?_
    refine r_getR (k := 19) (o' := 1) (i' := 20) ckX10 rfl rfl (by decide) rfl rfl rfl fl_X10_40 dX10_lastOf_12 ?_
    refine r_iload_n (k := 3) rfl rfl dX10_lastOf_15 ?_
    obtain ⟨c2, H⟩ := H
    refine r_iald rfl rfl rfl c2 dX10_lastOf_16 ?_
    refine r_istore (ls' := [(5, vI (M 1 20 x3)), (0, vR 1 0), (1, vI x1), (2, vI x2), (3, vI x3), (4, vI x4)]) (hM _ _ _) (by decide) rfl dX10_lastOf_17 ?_
    refine r_iload (k := 0) rfl dX10_lastOf_19 ?_
    refine r_aload_n (k := 1) rfl rfl dX10_lastOf_21 ?_
    refine r_iconst dX10_lastOf_22 ?_
    refine r_callV (g := mX10_manyOf) ckX10 rfl rfl rfl rfl mkX10_manyOf mvX10_manyOf ml_X10_201 ⟨by decide, by decide⟩ rfl (Nat.le_of_ble_eq_true rfl) rfl (ok_i ⟨by decide, by decide⟩ ok_n) dX10_lastOf_23 (sl_afterI (sl_RI.mono (fun y4 M3 gy4 hM3 H => ?_) H))
    refine r_icmp_ge (tgt := 40) (hM _ _ _) gy4 dX10_lastOf_26 (by decide) (fun h5 => ?_) (fun h5 => ?_)
    · have H := H.1 h5
      refine r_iconst dX10_lastOf_40 ?_
      refine r_iret rfl ⟨by decide, by decide⟩ dX10_lastOf_41 ?_
      exact H
    · have H := H.2 h5
      refine r_aload_n (k := 1) rfl rfl dX10_lastOf_29 ?_
      refine r_iconst dX10_lastOf_30 ?_
      refine r_iload_n (k := 2) rfl rfl dX10_lastOf_31 ?_
      refine r_iload (k := 0) rfl dX10_lastOf_32 ?_
      refine r_callV (g := mX10_areOfBlock) ckX10 rfl rfl rfl rfl mkX10_areOfBlock mvX10_areOfBlock ml_X10_204 ⟨by decide, by decide⟩ rfl (Nat.le_of_ble_eq_true rfl) rfl (ok_i ⟨by decide, by decide⟩ (ok_i g1 (ok_i (hM _ _ _) ok_n))) dX10_lastOf_34 (sl_afterI (sl_RI.mono (fun y7 M6 gy7 hM6 H => ?_) H))
      refine r_if_ne (tgt := 42) gy7 dX10_lastOf_37 (by decide) (fun h8 => ?_) (fun h8 => ?_)
      · have H := H.1 h8
        refine r_iload (k := 0) rfl dX10_lastOf_42 ?_
        refine r_istore_n (ls' := [(3, vI (M 1 20 x3)), (5, vI (M 1 20 x3)), (0, vR 1 0), (1, vI x1), (2, vI x2), (4, vI x4)]) (hM _ _ _) rfl (by decide) rfl dX10_lastOf_44 ?_
        obtain ⟨c9, H⟩ := H
        refine r_iinc (k := 5) (ls' := [(4, vI (x4 + 1)), (3, vI (M 1 20 x3)), (5, vI (M 1 20 x3)), (0, vR 1 0), (1, vI x1), (2, vI x2)]) rfl c9 (by decide) rfl dX10_lastOf_45 ?_
        refine r_goto (tgt := 5) dX10_lastOf_48 (by decide) ?_
        exact sl_At.sub [3, 4, 5, 1, 0] rfl H
      · have H := H.2 h8
        refine r_iconst dX10_lastOf_40 ?_
        refine r_iret rfl ⟨by decide, by decide⟩ dX10_lastOf_41 ?_
        exact H
theorem eX10_lastOf {l : Launch} {M : sl_M} {Q : sl_R} {x1 x2 : Int} (k : sl_At l mX10_lastOf 0 [(0, vR 1 0), (1, vI x1), (2, vI x2)] [] M Q) : sl_Runs l mX10_lastOf [vR 1 0, vI x1, vI x2] M Q := sl_Runs.of (ls := [(0, vR 1 0), (1, vI x1), (2, vI x2)]) rfl rfl (fun _ => rfl) (fun _ => Nat.le_of_ble_eq_true rfl) rfl (k)
theorem dX10_answersTo_0 : decode cX10_answersTo 0 = .ok (.iconst 0, 1) := by decide +kernel
theorem dX10_answersTo_1 : decode cX10_answersTo 1 = .ok (.istore_n 3, 1) := by decide +kernel
theorem dX10_answersTo_2 : decode cX10_answersTo 2 = .ok (.iload_n 3, 1) := by decide +kernel
theorem dX10_answersTo_3 : decode cX10_answersTo 3 = .ok (.bipush 8, 2) := by decide +kernel
theorem dX10_answersTo_5 : decode cX10_answersTo 5 = .ok (.if_icmp .ge 49, 3) := by decide +kernel
theorem dX10_answersTo_8 : decode cX10_answersTo 8 = .ok (.iload_n 3, 1) := by decide +kernel
theorem dX10_answersTo_9 : decode cX10_answersTo 9 = .ok (.iload_n 1, 1) := by decide +kernel
theorem dX10_answersTo_10 : decode cX10_answersTo 10 = .ok (.if_icmp .ne 26, 3) := by decide +kernel
theorem dX10_answersTo_13 : decode cX10_answersTo 13 = .ok (.aload_n 0, 1) := by decide +kernel
theorem dX10_answersTo_14 : decode cX10_answersTo 14 = .ok (.getfield 98, 3) := by decide +kernel
theorem dX10_answersTo_17 : decode cX10_answersTo 17 = .ok (.iload_n 3, 1) := by decide +kernel
theorem dX10_answersTo_18 : decode cX10_answersTo 18 = .ok (.iaload, 1) := by decide +kernel
theorem dX10_answersTo_19 : decode cX10_answersTo 19 = .ok (.iconst (-1), 1) := by decide +kernel
theorem dX10_answersTo_20 : decode cX10_answersTo 20 = .ok (.if_icmp .eq 28, 3) := by decide +kernel
theorem dX10_answersTo_23 : decode cX10_answersTo 23 = .ok (.aload_n 0, 1) := by decide +kernel
theorem dX10_answersTo_24 : decode cX10_answersTo 24 = .ok (.getfield 98, 3) := by decide +kernel
theorem dX10_answersTo_27 : decode cX10_answersTo 27 = .ok (.iload_n 3, 1) := by decide +kernel
theorem dX10_answersTo_28 : decode cX10_answersTo 28 = .ok (.iaload, 1) := by decide +kernel
theorem dX10_answersTo_29 : decode cX10_answersTo 29 = .ok (.iload_n 2, 1) := by decide +kernel
theorem dX10_answersTo_30 : decode cX10_answersTo 30 = .ok (.if_icmp .eq 18, 3) := by decide +kernel
theorem dX10_answersTo_33 : decode cX10_answersTo 33 = .ok (.goto 13, 3) := by decide +kernel
theorem dX10_answersTo_36 : decode cX10_answersTo 36 = .ok (.aload_n 0, 1) := by decide +kernel
theorem dX10_answersTo_37 : decode cX10_answersTo 37 = .ok (.getfield 98, 3) := by decide +kernel
theorem dX10_answersTo_40 : decode cX10_answersTo 40 = .ok (.iload_n 3, 1) := by decide +kernel
theorem dX10_answersTo_41 : decode cX10_answersTo 41 = .ok (.iaload, 1) := by decide +kernel
theorem dX10_answersTo_42 : decode cX10_answersTo 42 = .ok (.iload_n 2, 1) := by decide +kernel
theorem dX10_answersTo_43 : decode cX10_answersTo 43 = .ok (.if_icmp .ne 5, 3) := by decide +kernel
theorem dX10_answersTo_46 : decode cX10_answersTo 46 = .ok (.iconst 0, 1) := by decide +kernel
theorem dX10_answersTo_47 : decode cX10_answersTo 47 = .ok (.ireturn, 1) := by decide +kernel
theorem dX10_answersTo_48 : decode cX10_answersTo 48 = .ok (.iinc 3 1, 3) := by decide +kernel
theorem dX10_answersTo_51 : decode cX10_answersTo 51 = .ok (.goto (-49), 3) := by decide +kernel
theorem dX10_answersTo_54 : decode cX10_answersTo 54 = .ok (.aload_n 0, 1) := by decide +kernel
theorem dX10_answersTo_55 : decode cX10_answersTo 55 = .ok (.getfield 98, 3) := by decide +kernel
theorem dX10_answersTo_58 : decode cX10_answersTo 58 = .ok (.iload_n 1, 1) := by decide +kernel
theorem dX10_answersTo_59 : decode cX10_answersTo 59 = .ok (.iload_n 2, 1) := by decide +kernel
theorem dX10_answersTo_60 : decode cX10_answersTo 60 = .ok (.iastore, 1) := by decide +kernel
theorem dX10_answersTo_61 : decode cX10_answersTo 61 = .ok (.iconst 1, 1) := by decide +kernel
theorem dX10_answersTo_62 : decode cX10_answersTo 62 = .ok (.ireturn, 1) := by decide +kernel
set_option maxHeartbeats 4000000 in
set_option maxRecDepth 10000 in
theorem vX10_answersTo_0 {l : Launch} {M : sl_M} {Q : sl_R} {x1 x2 : Int} (H : sl_RM M → sl_rg x1 → sl_rg x2 → sl_At l mX10_answersTo 2 [(0, vR 1 0), (1, vI x1), (2, vI x2), (3, vI 0)] [] M Q) : sl_At l mX10_answersTo 0 [(0, vR 1 0), (1, vI x1), (2, vI x2)] [] M Q := by
  refine sl_At.in (fun hM hls => ?_)
  have g1 : sl_rg x1 := hls _ (List.mem_of_getElem? (i := 1) rfl)
  have g2 : sl_rg x2 := hls _ (List.mem_of_getElem? (i := 2) rfl)
  have H := H hM g1 g2
  refine r_iconst dX10_answersTo_0 ?_
  refine r_istore_n (ls' := [(3, vI 0), (0, vR 1 0), (1, vI x1), (2, vI x2)]) ⟨by decide, by decide⟩ rfl (by decide) rfl dX10_answersTo_1 ?_
  exact sl_At.sub [1, 2, 3, 0] rfl H
set_option maxHeartbeats 4000000 in
set_option maxRecDepth 10000 in
theorem vX10_answersTo_2 {l : Launch} {M : sl_M} {Q : sl_R} {x1 x2 x3 : Int} (H : sl_RM M → sl_rg x1 → sl_rg x2 → sl_rg x3 → ((8 ≤ x3) → (0 ≤ x1 ∧ x1 < 8) ∧ (∀ M3, M3 = sl_wr M 1 50 x1 x2 → Q (some (vI 1)) M3)) ∧ ((¬ (8 ≤ x3)) → ((x3 ≠ x1) → (0 ≤ x3 ∧ x3 < 8) ∧ ((M 1 50 x3 ≠ x2) → (sl_rg (x3 + 1)) ∧ sl_At l mX10_answersTo 2 [(0, vR 1 0), (1, vI x1), (2, vI x2), (3, vI (x3 + 1))] [] M Q) ∧ ((¬ (M 1 50 x3 ≠ x2)) → Q (some (vI 0)) M)) ∧ ((¬ (x3 ≠ x1)) → (0 ≤ x3 ∧ x3 < 8) ∧ ((M 1 50 x3 = (-1)) → (sl_rg (x3 + 1)) ∧ sl_At l mX10_answersTo 2 [(0, vR 1 0), (1, vI x1), (2, vI x2), (3, vI (x3 + 1))] [] M Q) ∧ ((¬ (M 1 50 x3 = (-1))) → ((M 1 50 x3 = x2) → (sl_rg (x3 + 1)) ∧ sl_At l mX10_answersTo 2 [(0, vR 1 0), (1, vI x1), (2, vI x2), (3, vI (x3 + 1))] [] M Q) ∧ ((¬ (M 1 50 x3 = x2)) → Q (some (vI 0)) M))))) : sl_At l mX10_answersTo 2 [(0, vR 1 0), (1, vI x1), (2, vI x2), (3, vI x3)] [] M Q := by
  refine sl_At.in (fun hM hls => ?_)
  have g1 : sl_rg x1 := hls _ (List.mem_of_getElem? (i := 1) rfl)
  have g2 : sl_rg x2 := hls _ (List.mem_of_getElem? (i := 2) rfl)
  have g3 : sl_rg x3 := hls _ (List.mem_of_getElem? (i := 3) rfl)
  have H := H hM g1 g2 g3
  refine r_iload_n (k := 3) rfl rfl dX10_answersTo_2 ?_
  refine r_bipush dX10_answersTo_3 (by decide) ?_
  refine r_icmp_ge (tgt := 54) g3 ⟨by decide, by decide⟩ dX10_answersTo_5 (by decide) (fun h1 => ?_) (fun h1 => ?_)
  · have H := H.1 h1
    refine r_aload_n (k := 0) rfl rfl dX10_answersTo_54 ?_
    refine r_getR (k := 49) (o' := 1) (i' := 50) ckX10 rfl rfl (by decide) rfl rfl rfl fl_X10_98 dX10_answersTo_55 ?_
    refine r_iload_n (k := 1) rfl rfl dX10_answersTo_58 ?_
    refine r_iload_n (k := 2) rfl rfl dX10_answersTo_59 ?_
    obtain ⟨c2, H⟩ := H
    refine r_iast rfl rfl rfl c2 g2 dX10_answersTo_60 ?_
    refine r_mm (fun M3 e3 => ?_)
    have H := H M3 e3
    have hM3 : sl_RM M3 := by rw [e3]; exact sl_wr_RM hM g2
    refine r_iconst dX10_answersTo_61 ?_
    refine r_zret rfl (Or.inr rfl) dX10_answersTo_62 ?_
    exact H
  · have H := H.2 h1
    refine r_iload_n (k := 3) rfl rfl dX10_answersTo_8 ?_
    refine r_iload_n (k := 1) rfl rfl dX10_answersTo_9 ?_
    refine r_icmp_ne (tgt := 36) g3 g1 dX10_answersTo_10 (by decide) (fun h4 => ?_) (fun h4 => ?_)
    · have H := H.1 h4
      refine r_aload_n (k := 0) rfl rfl dX10_answersTo_36 ?_
      refine r_getR (k := 49) (o' := 1) (i' := 50) ckX10 rfl rfl (by decide) rfl rfl rfl fl_X10_98 dX10_answersTo_37 ?_
      refine r_iload_n (k := 3) rfl rfl dX10_answersTo_40 ?_
      obtain ⟨c5, H⟩ := H
      refine r_iald rfl rfl rfl c5 dX10_answersTo_41 ?_
      refine r_iload_n (k := 2) rfl rfl dX10_answersTo_42 ?_
      refine r_icmp_ne (tgt := 48) (hM _ _ _) g2 dX10_answersTo_43 (by decide) (fun h6 => ?_) (fun h6 => ?_)
      · have H := H.1 h6
        obtain ⟨c7, H⟩ := H
        refine r_iinc (k := 3) (ls' := [(3, vI (x3 + 1)), (0, vR 1 0), (1, vI x1), (2, vI x2)]) rfl c7 (by decide) rfl dX10_answersTo_48 ?_
        refine r_goto (tgt := 2) dX10_answersTo_51 (by decide) ?_
        exact sl_At.sub [1, 2, 3, 0] rfl H
      · have H := H.2 h6
        refine r_iconst dX10_answersTo_46 ?_
        refine r_zret rfl (Or.inl rfl) dX10_answersTo_47 ?_
        exact H
    · have H := H.2 h4
      refine r_aload_n (k := 0) rfl rfl dX10_answersTo_13 ?_
      refine r_getR (k := 49) (o' := 1) (i' := 50) ckX10 rfl rfl (by decide) rfl rfl rfl fl_X10_98 dX10_answersTo_14 ?_
      refine r_iload_n (k := 3) rfl rfl dX10_answersTo_17 ?_
      obtain ⟨c8, H⟩ := H
      refine r_iald rfl rfl rfl c8 dX10_answersTo_18 ?_
      refine r_iconst dX10_answersTo_19 ?_
      refine r_icmp_eq (tgt := 48) (hM _ _ _) ⟨by decide, by decide⟩ dX10_answersTo_20 (by decide) (fun h9 => ?_) (fun h9 => ?_)
      · have H := H.1 h9
        obtain ⟨c10, H⟩ := H
        refine r_iinc (k := 3) (ls' := [(3, vI (x3 + 1)), (0, vR 1 0), (1, vI x1), (2, vI x2)]) rfl c10 (by decide) rfl dX10_answersTo_48 ?_
        refine r_goto (tgt := 2) dX10_answersTo_51 (by decide) ?_
        exact sl_At.sub [1, 2, 3, 0] rfl H
      · have H := H.2 h9
        refine r_aload_n (k := 0) rfl rfl dX10_answersTo_23 ?_
        refine r_getR (k := 49) (o' := 1) (i' := 50) ckX10 rfl rfl (by decide) rfl rfl rfl fl_X10_98 dX10_answersTo_24 ?_
        refine r_iload_n (k := 3) rfl rfl dX10_answersTo_27 ?_
        refine r_iald rfl rfl rfl c8 dX10_answersTo_28 ?_
        refine r_iload_n (k := 2) rfl rfl dX10_answersTo_29 ?_
        refine r_icmp_eq (tgt := 48) (hM _ _ _) g2 dX10_answersTo_30 (by decide) (fun h11 => ?_) (fun h11 => ?_)
        · have H := H.1 h11
          obtain ⟨c12, H⟩ := H
          refine r_iinc (k := 3) (ls' := [(3, vI (x3 + 1)), (0, vR 1 0), (1, vI x1), (2, vI x2)]) rfl c12 (by decide) rfl dX10_answersTo_48 ?_
          refine r_goto (tgt := 2) dX10_answersTo_51 (by decide) ?_
          exact sl_At.sub [1, 2, 3, 0] rfl H
        · have H := H.2 h11
          refine r_goto (tgt := 46) dX10_answersTo_33 (by decide) ?_
          refine r_iconst dX10_answersTo_46 ?_
          refine r_zret rfl (Or.inl rfl) dX10_answersTo_47 ?_
          exact H
theorem eX10_answersTo {l : Launch} {M : sl_M} {Q : sl_R} {x1 x2 : Int} (k : sl_At l mX10_answersTo 0 [(0, vR 1 0), (1, vI x1), (2, vI x2)] [] M Q) : sl_Runs l mX10_answersTo [vR 1 0, vI x1, vI x2] M Q := sl_Runs.of (ls := [(0, vR 1 0), (1, vI x1), (2, vI x2)]) rfl rfl (fun _ => rfl) (fun _ => Nat.le_of_ble_eq_true rfl) rfl (k)
theorem dX10_areAlike_0 : decode cX10_areAlike 0 = .ok (.iconst 0, 1) := by decide +kernel
theorem dX10_areAlike_1 : decode cX10_areAlike 1 = .ok (.istore 4, 2) := by decide +kernel
theorem dX10_areAlike_3 : decode cX10_areAlike 3 = .ok (.iload 4, 2) := by decide +kernel
theorem dX10_areAlike_5 : decode cX10_areAlike 5 = .ok (.bipush 8, 2) := by decide +kernel
theorem dX10_areAlike_7 : decode cX10_areAlike 7 = .ok (.if_icmp .ge 17, 3) := by decide +kernel
theorem dX10_areAlike_10 : decode cX10_areAlike 10 = .ok (.aload_n 0, 1) := by decide +kernel
theorem dX10_areAlike_11 : decode cX10_areAlike 11 = .ok (.getfield 98, 3) := by decide +kernel
theorem dX10_areAlike_14 : decode cX10_areAlike 14 = .ok (.iload 4, 2) := by decide +kernel
theorem dX10_areAlike_16 : decode cX10_areAlike 16 = .ok (.iconst (-1), 1) := by decide +kernel
theorem dX10_areAlike_17 : decode cX10_areAlike 17 = .ok (.iastore, 1) := by decide +kernel
theorem dX10_areAlike_18 : decode cX10_areAlike 18 = .ok (.iinc 4 1, 3) := by decide +kernel
theorem dX10_areAlike_21 : decode cX10_areAlike 21 = .ok (.goto (-18), 3) := by decide +kernel
theorem dX10_areAlike_24 : decode cX10_areAlike 24 = .ok (.iconst 1, 1) := by decide +kernel
theorem dX10_areAlike_25 : decode cX10_areAlike 25 = .ok (.istore 4, 2) := by decide +kernel
theorem dX10_areAlike_27 : decode cX10_areAlike 27 = .ok (.iload_n 1, 1) := by decide +kernel
theorem dX10_areAlike_28 : decode cX10_areAlike 28 = .ok (.istore 5, 2) := by decide +kernel
theorem dX10_areAlike_30 : decode cX10_areAlike 30 = .ok (.iload 5, 2) := by decide +kernel
theorem dX10_areAlike_32 : decode cX10_areAlike 32 = .ok (.iload_n 2, 1) := by decide +kernel
theorem dX10_areAlike_33 : decode cX10_areAlike 33 = .ok (.if_icmp .ge 376, 3) := by decide +kernel
theorem dX10_areAlike_36 : decode cX10_areAlike 36 = .ok (.iload 4, 2) := by decide +kernel
theorem dX10_areAlike_38 : decode cX10_areAlike 38 = .ok (.ifCond .eq 371, 3) := by decide +kernel
theorem dX10_areAlike_41 : decode cX10_areAlike 41 = .ok (.iload_n 3, 1) := by decide +kernel
theorem dX10_areAlike_42 : decode cX10_areAlike 42 = .ok (.iload 5, 2) := by decide +kernel
theorem dX10_areAlike_44 : decode cX10_areAlike 44 = .ok (.iadd, 1) := by decide +kernel
theorem dX10_areAlike_45 : decode cX10_areAlike 45 = .ok (.iload_n 1, 1) := by decide +kernel
theorem dX10_areAlike_46 : decode cX10_areAlike 46 = .ok (.isub, 1) := by decide +kernel
theorem dX10_areAlike_47 : decode cX10_areAlike 47 = .ok (.istore 6, 2) := by decide +kernel
theorem dX10_areAlike_49 : decode cX10_areAlike 49 = .ok (.aload_n 0, 1) := by decide +kernel
theorem dX10_areAlike_50 : decode cX10_areAlike 50 = .ok (.getfield 7, 3) := by decide +kernel
theorem dX10_areAlike_53 : decode cX10_areAlike 53 = .ok (.iconst 1, 1) := by decide +kernel
theorem dX10_areAlike_54 : decode cX10_areAlike 54 = .ok (.iload 5, 2) := by decide +kernel
theorem dX10_areAlike_56 : decode cX10_areAlike 56 = .ok (.iadd, 1) := by decide +kernel
theorem dX10_areAlike_57 : decode cX10_areAlike 57 = .ok (.iaload, 1) := by decide +kernel
theorem dX10_areAlike_58 : decode cX10_areAlike 58 = .ok (.aload_n 0, 1) := by decide +kernel
theorem dX10_areAlike_59 : decode cX10_areAlike 59 = .ok (.getfield 7, 3) := by decide +kernel
theorem dX10_areAlike_62 : decode cX10_areAlike 62 = .ok (.iconst 1, 1) := by decide +kernel
theorem dX10_areAlike_63 : decode cX10_areAlike 63 = .ok (.iload 6, 2) := by decide +kernel
theorem dX10_areAlike_65 : decode cX10_areAlike 65 = .ok (.iadd, 1) := by decide +kernel
theorem dX10_areAlike_66 : decode cX10_areAlike 66 = .ok (.iaload, 1) := by decide +kernel
theorem dX10_areAlike_67 : decode cX10_areAlike 67 = .ok (.if_icmp .ne 86, 3) := by decide +kernel
theorem dX10_areAlike_70 : decode cX10_areAlike 70 = .ok (.aload_n 0, 1) := by decide +kernel
theorem dX10_areAlike_71 : decode cX10_areAlike 71 = .ok (.getfield 7, 3) := by decide +kernel
theorem dX10_areAlike_74 : decode cX10_areAlike 74 = .ok (.bipush 41, 2) := by decide +kernel
theorem dX10_areAlike_76 : decode cX10_areAlike 76 = .ok (.iload 5, 2) := by decide +kernel
theorem dX10_areAlike_78 : decode cX10_areAlike 78 = .ok (.iadd, 1) := by decide +kernel
theorem dX10_areAlike_79 : decode cX10_areAlike 79 = .ok (.iaload, 1) := by decide +kernel
theorem dX10_areAlike_80 : decode cX10_areAlike 80 = .ok (.iload 5, 2) := by decide +kernel
theorem dX10_areAlike_82 : decode cX10_areAlike 82 = .ok (.isub, 1) := by decide +kernel
theorem dX10_areAlike_83 : decode cX10_areAlike 83 = .ok (.aload_n 0, 1) := by decide +kernel
theorem dX10_areAlike_84 : decode cX10_areAlike 84 = .ok (.getfield 7, 3) := by decide +kernel
theorem dX10_areAlike_87 : decode cX10_areAlike 87 = .ok (.bipush 41, 2) := by decide +kernel
theorem dX10_areAlike_89 : decode cX10_areAlike 89 = .ok (.iload 6, 2) := by decide +kernel
theorem dX10_areAlike_91 : decode cX10_areAlike 91 = .ok (.iadd, 1) := by decide +kernel
theorem dX10_areAlike_92 : decode cX10_areAlike 92 = .ok (.iaload, 1) := by decide +kernel
theorem dX10_areAlike_93 : decode cX10_areAlike 93 = .ok (.iload 6, 2) := by decide +kernel
theorem dX10_areAlike_95 : decode cX10_areAlike 95 = .ok (.isub, 1) := by decide +kernel
theorem dX10_areAlike_96 : decode cX10_areAlike 96 = .ok (.if_icmp .ne 57, 3) := by decide +kernel
theorem dX10_areAlike_99 : decode cX10_areAlike 99 = .ok (.aload_n 0, 1) := by decide +kernel
theorem dX10_areAlike_100 : decode cX10_areAlike 100 = .ok (.getfield 7, 3) := by decide +kernel
theorem dX10_areAlike_103 : decode cX10_areAlike 103 = .ok (.sipush 161, 3) := by decide +kernel
theorem dX10_areAlike_106 : decode cX10_areAlike 106 = .ok (.iload 5, 2) := by decide +kernel
theorem dX10_areAlike_108 : decode cX10_areAlike 108 = .ok (.iadd, 1) := by decide +kernel
theorem dX10_areAlike_109 : decode cX10_areAlike 109 = .ok (.iaload, 1) := by decide +kernel
theorem dX10_areAlike_110 : decode cX10_areAlike 110 = .ok (.aload_n 0, 1) := by decide +kernel
theorem dX10_areAlike_111 : decode cX10_areAlike 111 = .ok (.getfield 7, 3) := by decide +kernel
theorem dX10_areAlike_114 : decode cX10_areAlike 114 = .ok (.sipush 161, 3) := by decide +kernel
theorem dX10_areAlike_117 : decode cX10_areAlike 117 = .ok (.iload 6, 2) := by decide +kernel
theorem dX10_areAlike_119 : decode cX10_areAlike 119 = .ok (.iadd, 1) := by decide +kernel
theorem dX10_areAlike_120 : decode cX10_areAlike 120 = .ok (.iaload, 1) := by decide +kernel
theorem dX10_areAlike_121 : decode cX10_areAlike 121 = .ok (.if_icmp .ne 32, 3) := by decide +kernel
theorem dX10_areAlike_124 : decode cX10_areAlike 124 = .ok (.aload_n 0, 1) := by decide +kernel
theorem dX10_areAlike_125 : decode cX10_areAlike 125 = .ok (.getfield 7, 3) := by decide +kernel
theorem dX10_areAlike_128 : decode cX10_areAlike 128 = .ok (.sipush 241, 3) := by decide +kernel
theorem dX10_areAlike_131 : decode cX10_areAlike 131 = .ok (.iload 5, 2) := by decide +kernel
theorem dX10_areAlike_133 : decode cX10_areAlike 133 = .ok (.iadd, 1) := by decide +kernel
theorem dX10_areAlike_134 : decode cX10_areAlike 134 = .ok (.iaload, 1) := by decide +kernel
theorem dX10_areAlike_135 : decode cX10_areAlike 135 = .ok (.aload_n 0, 1) := by decide +kernel
theorem dX10_areAlike_136 : decode cX10_areAlike 136 = .ok (.getfield 7, 3) := by decide +kernel
theorem dX10_areAlike_139 : decode cX10_areAlike 139 = .ok (.sipush 241, 3) := by decide +kernel
theorem dX10_areAlike_142 : decode cX10_areAlike 142 = .ok (.iload 6, 2) := by decide +kernel
theorem dX10_areAlike_144 : decode cX10_areAlike 144 = .ok (.iadd, 1) := by decide +kernel
theorem dX10_areAlike_145 : decode cX10_areAlike 145 = .ok (.iaload, 1) := by decide +kernel
theorem dX10_areAlike_146 : decode cX10_areAlike 146 = .ok (.if_icmp .ne 7, 3) := by decide +kernel
theorem dX10_areAlike_149 : decode cX10_areAlike 149 = .ok (.iconst 1, 1) := by decide +kernel
theorem dX10_areAlike_150 : decode cX10_areAlike 150 = .ok (.goto 4, 3) := by decide +kernel
theorem dX10_areAlike_153 : decode cX10_areAlike 153 = .ok (.iconst 0, 1) := by decide +kernel
theorem dX10_areAlike_154 : decode cX10_areAlike 154 = .ok (.istore 4, 2) := by decide +kernel
theorem dX10_areAlike_156 : decode cX10_areAlike 156 = .ok (.iload 4, 2) := by decide +kernel
theorem dX10_areAlike_158 : decode cX10_areAlike 158 = .ok (.ifCond .eq 58, 3) := by decide +kernel
theorem dX10_areAlike_161 : decode cX10_areAlike 161 = .ok (.iload 5, 2) := by decide +kernel
theorem dX10_areAlike_163 : decode cX10_areAlike 163 = .ok (.iload_n 1, 1) := by decide +kernel
theorem dX10_areAlike_164 : decode cX10_areAlike 164 = .ok (.if_icmp .eq 48, 3) := by decide +kernel
theorem dX10_areAlike_167 : decode cX10_areAlike 167 = .ok (.aload_n 0, 1) := by decide +kernel
theorem dX10_areAlike_168 : decode cX10_areAlike 168 = .ok (.getfield 7, 3) := by decide +kernel
theorem dX10_areAlike_171 : decode cX10_areAlike 171 = .ok (.bipush 121, 2) := by decide +kernel
theorem dX10_areAlike_173 : decode cX10_areAlike 173 = .ok (.iload 5, 2) := by decide +kernel
theorem dX10_areAlike_175 : decode cX10_areAlike 175 = .ok (.iadd, 1) := by decide +kernel
theorem dX10_areAlike_176 : decode cX10_areAlike 176 = .ok (.iaload, 1) := by decide +kernel
theorem dX10_areAlike_177 : decode cX10_areAlike 177 = .ok (.aload_n 0, 1) := by decide +kernel
theorem dX10_areAlike_178 : decode cX10_areAlike 178 = .ok (.getfield 7, 3) := by decide +kernel
theorem dX10_areAlike_181 : decode cX10_areAlike 181 = .ok (.bipush 121, 2) := by decide +kernel
theorem dX10_areAlike_183 : decode cX10_areAlike 183 = .ok (.iload 6, 2) := by decide +kernel
theorem dX10_areAlike_185 : decode cX10_areAlike 185 = .ok (.iadd, 1) := by decide +kernel
theorem dX10_areAlike_186 : decode cX10_areAlike 186 = .ok (.iaload, 1) := by decide +kernel
theorem dX10_areAlike_187 : decode cX10_areAlike 187 = .ok (.if_icmp .eq 25, 3) := by decide +kernel
theorem dX10_areAlike_190 : decode cX10_areAlike 190 = .ok (.aload_n 0, 1) := by decide +kernel
theorem dX10_areAlike_191 : decode cX10_areAlike 191 = .ok (.getfield 7, 3) := by decide +kernel
theorem dX10_areAlike_194 : decode cX10_areAlike 194 = .ok (.bipush 81, 2) := by decide +kernel
theorem dX10_areAlike_196 : decode cX10_areAlike 196 = .ok (.iload 5, 2) := by decide +kernel
theorem dX10_areAlike_198 : decode cX10_areAlike 198 = .ok (.iadd, 1) := by decide +kernel
theorem dX10_areAlike_199 : decode cX10_areAlike 199 = .ok (.iaload, 1) := by decide +kernel
theorem dX10_areAlike_200 : decode cX10_areAlike 200 = .ok (.aload_n 0, 1) := by decide +kernel
theorem dX10_areAlike_201 : decode cX10_areAlike 201 = .ok (.getfield 7, 3) := by decide +kernel
theorem dX10_areAlike_204 : decode cX10_areAlike 204 = .ok (.bipush 81, 2) := by decide +kernel
theorem dX10_areAlike_206 : decode cX10_areAlike 206 = .ok (.iload_n 1, 1) := by decide +kernel
theorem dX10_areAlike_207 : decode cX10_areAlike 207 = .ok (.iadd, 1) := by decide +kernel
theorem dX10_areAlike_208 : decode cX10_areAlike 208 = .ok (.iaload, 1) := by decide +kernel
theorem dX10_areAlike_209 : decode cX10_areAlike 209 = .ok (.if_icmp .ne 7, 3) := by decide +kernel
theorem dX10_areAlike_212 : decode cX10_areAlike 212 = .ok (.iconst 1, 1) := by decide +kernel
theorem dX10_areAlike_213 : decode cX10_areAlike 213 = .ok (.goto 4, 3) := by decide +kernel
theorem dX10_areAlike_216 : decode cX10_areAlike 216 = .ok (.iconst 0, 1) := by decide +kernel
theorem dX10_areAlike_217 : decode cX10_areAlike 217 = .ok (.istore 4, 2) := by decide +kernel
theorem dX10_areAlike_219 : decode cX10_areAlike 219 = .ok (.iconst 0, 1) := by decide +kernel
theorem dX10_areAlike_220 : decode cX10_areAlike 220 = .ok (.istore 7, 2) := by decide +kernel
theorem dX10_areAlike_222 : decode cX10_areAlike 222 = .ok (.iload 4, 2) := by decide +kernel
theorem dX10_areAlike_224 : decode cX10_areAlike 224 = .ok (.ifCond .eq 126, 3) := by decide +kernel
theorem dX10_areAlike_227 : decode cX10_areAlike 227 = .ok (.iload 7, 2) := by decide +kernel
theorem dX10_areAlike_229 : decode cX10_areAlike 229 = .ok (.aload_n 0, 1) := by decide +kernel
theorem dX10_areAlike_230 : decode cX10_areAlike 230 = .ok (.getfield 7, 3) := by decide +kernel
theorem dX10_areAlike_233 : decode cX10_areAlike 233 = .ok (.sipush 241, 3) := by decide +kernel
theorem dX10_areAlike_236 : decode cX10_areAlike 236 = .ok (.iload 5, 2) := by decide +kernel
theorem dX10_areAlike_238 : decode cX10_areAlike 238 = .ok (.iadd, 1) := by decide +kernel
theorem dX10_areAlike_239 : decode cX10_areAlike 239 = .ok (.iaload, 1) := by decide +kernel
theorem dX10_areAlike_240 : decode cX10_areAlike 240 = .ok (.if_icmp .ge 110, 3) := by decide +kernel
theorem dX10_areAlike_243 : decode cX10_areAlike 243 = .ok (.aload_n 0, 1) := by decide +kernel
theorem dX10_areAlike_244 : decode cX10_areAlike 244 = .ok (.getfield 7, 3) := by decide +kernel
theorem dX10_areAlike_247 : decode cX10_areAlike 247 = .ok (.sipush 281, 3) := by decide +kernel
theorem dX10_areAlike_250 : decode cX10_areAlike 250 = .ok (.bipush 12, 2) := by decide +kernel
theorem dX10_areAlike_252 : decode cX10_areAlike 252 = .ok (.iload 5, 2) := by decide +kernel
theorem dX10_areAlike_254 : decode cX10_areAlike 254 = .ok (.imul, 1) := by decide +kernel
theorem dX10_areAlike_255 : decode cX10_areAlike 255 = .ok (.iadd, 1) := by decide +kernel
theorem dX10_areAlike_256 : decode cX10_areAlike 256 = .ok (.iload 7, 2) := by decide +kernel
theorem dX10_areAlike_258 : decode cX10_areAlike 258 = .ok (.iadd, 1) := by decide +kernel
theorem dX10_areAlike_259 : decode cX10_areAlike 259 = .ok (.iaload, 1) := by decide +kernel
theorem dX10_areAlike_260 : decode cX10_areAlike 260 = .ok (.istore 8, 2) := by decide +kernel
theorem dX10_areAlike_262 : decode cX10_areAlike 262 = .ok (.aload_n 0, 1) := by decide +kernel
theorem dX10_areAlike_263 : decode cX10_areAlike 263 = .ok (.getfield 7, 3) := by decide +kernel
theorem dX10_areAlike_266 : decode cX10_areAlike 266 = .ok (.sipush 281, 3) := by decide +kernel
theorem dX10_areAlike_269 : decode cX10_areAlike 269 = .ok (.bipush 12, 2) := by decide +kernel
theorem dX10_areAlike_271 : decode cX10_areAlike 271 = .ok (.iload 6, 2) := by decide +kernel
theorem dX10_areAlike_273 : decode cX10_areAlike 273 = .ok (.imul, 1) := by decide +kernel
theorem dX10_areAlike_274 : decode cX10_areAlike 274 = .ok (.iadd, 1) := by decide +kernel
theorem dX10_areAlike_275 : decode cX10_areAlike 275 = .ok (.iload 7, 2) := by decide +kernel
theorem dX10_areAlike_277 : decode cX10_areAlike 277 = .ok (.iadd, 1) := by decide +kernel
theorem dX10_areAlike_278 : decode cX10_areAlike 278 = .ok (.iaload, 1) := by decide +kernel
theorem dX10_areAlike_279 : decode cX10_areAlike 279 = .ok (.istore 9, 2) := by decide +kernel
theorem dX10_areAlike_281 : decode cX10_areAlike 281 = .ok (.iload 8, 2) := by decide +kernel
theorem dX10_areAlike_283 : decode cX10_areAlike 283 = .ok (.bipush 97, 2) := by decide +kernel
theorem dX10_areAlike_285 : decode cX10_areAlike 285 = .ok (.bipush 104, 2) := by decide +kernel
theorem dX10_areAlike_287 : decode cX10_areAlike 287 = .ok (.invokestatic 135, 3) := by decide +kernel
theorem dX10_areAlike_290 : decode cX10_areAlike 290 = .ok (.ifCond .eq 40, 3) := by decide +kernel
theorem dX10_areAlike_293 : decode cX10_areAlike 293 = .ok (.iload 9, 2) := by decide +kernel
theorem dX10_areAlike_295 : decode cX10_areAlike 295 = .ok (.bipush 97, 2) := by decide +kernel
theorem dX10_areAlike_297 : decode cX10_areAlike 297 = .ok (.bipush 104, 2) := by decide +kernel
theorem dX10_areAlike_299 : decode cX10_areAlike 299 = .ok (.invokestatic 135, 3) := by decide +kernel
theorem dX10_areAlike_302 : decode cX10_areAlike 302 = .ok (.ifCond .eq 24, 3) := by decide +kernel
theorem dX10_areAlike_305 : decode cX10_areAlike 305 = .ok (.aload_n 0, 1) := by decide +kernel
theorem dX10_areAlike_306 : decode cX10_areAlike 306 = .ok (.iload 8, 2) := by decide +kernel
theorem dX10_areAlike_308 : decode cX10_areAlike 308 = .ok (.bipush 97, 2) := by decide +kernel
theorem dX10_areAlike_310 : decode cX10_areAlike 310 = .ok (.isub, 1) := by decide +kernel
theorem dX10_areAlike_311 : decode cX10_areAlike 311 = .ok (.iload 9, 2) := by decide +kernel
theorem dX10_areAlike_313 : decode cX10_areAlike 313 = .ok (.bipush 97, 2) := by decide +kernel
theorem dX10_areAlike_315 : decode cX10_areAlike 315 = .ok (.isub, 1) := by decide +kernel
theorem dX10_areAlike_316 : decode cX10_areAlike 316 = .ok (.invokevirtual 307, 3) := by decide +kernel
theorem dX10_areAlike_319 : decode cX10_areAlike 319 = .ok (.ifCond .eq 7, 3) := by decide +kernel
theorem dX10_areAlike_322 : decode cX10_areAlike 322 = .ok (.iconst 1, 1) := by decide +kernel
theorem dX10_areAlike_323 : decode cX10_areAlike 323 = .ok (.goto 19, 3) := by decide +kernel
theorem dX10_areAlike_326 : decode cX10_areAlike 326 = .ok (.iconst 0, 1) := by decide +kernel
theorem dX10_areAlike_327 : decode cX10_areAlike 327 = .ok (.goto 15, 3) := by decide +kernel
theorem dX10_areAlike_330 : decode cX10_areAlike 330 = .ok (.iload 8, 2) := by decide +kernel
theorem dX10_areAlike_332 : decode cX10_areAlike 332 = .ok (.iload 9, 2) := by decide +kernel
theorem dX10_areAlike_334 : decode cX10_areAlike 334 = .ok (.if_icmp .ne 7, 3) := by decide +kernel
theorem dX10_areAlike_337 : decode cX10_areAlike 337 = .ok (.iconst 1, 1) := by decide +kernel
theorem dX10_areAlike_338 : decode cX10_areAlike 338 = .ok (.goto 4, 3) := by decide +kernel
theorem dX10_areAlike_341 : decode cX10_areAlike 341 = .ok (.iconst 0, 1) := by decide +kernel
theorem dX10_areAlike_342 : decode cX10_areAlike 342 = .ok (.istore 4, 2) := by decide +kernel
theorem dX10_areAlike_344 : decode cX10_areAlike 344 = .ok (.iinc 7 1, 3) := by decide +kernel
theorem dX10_areAlike_347 : decode cX10_areAlike 347 = .ok (.goto (-125), 3) := by decide +kernel
theorem dX10_areAlike_350 : decode cX10_areAlike 350 = .ok (.iload 4, 2) := by decide +kernel
theorem dX10_areAlike_352 : decode cX10_areAlike 352 = .ok (.ifCond .eq 48, 3) := by decide +kernel
theorem dX10_areAlike_355 : decode cX10_areAlike 355 = .ok (.aload_n 0, 1) := by decide +kernel
theorem dX10_areAlike_356 : decode cX10_areAlike 356 = .ok (.getfield 7, 3) := by decide +kernel
theorem dX10_areAlike_359 : decode cX10_areAlike 359 = .ok (.iconst 1, 1) := by decide +kernel
theorem dX10_areAlike_360 : decode cX10_areAlike 360 = .ok (.iload 5, 2) := by decide +kernel
theorem dX10_areAlike_362 : decode cX10_areAlike 362 = .ok (.iadd, 1) := by decide +kernel
theorem dX10_areAlike_363 : decode cX10_areAlike 363 = .ok (.iaload, 1) := by decide +kernel
theorem dX10_areAlike_364 : decode cX10_areAlike 364 = .ok (.ifCond .ne 32, 3) := by decide +kernel
theorem dX10_areAlike_367 : decode cX10_areAlike 367 = .ok (.aload_n 0, 1) := by decide +kernel
theorem dX10_areAlike_368 : decode cX10_areAlike 368 = .ok (.aload_n 0, 1) := by decide +kernel
theorem dX10_areAlike_369 : decode cX10_areAlike 369 = .ok (.getfield 7, 3) := by decide +kernel
theorem dX10_areAlike_372 : decode cX10_areAlike 372 = .ok (.sipush 201, 3) := by decide +kernel
theorem dX10_areAlike_375 : decode cX10_areAlike 375 = .ok (.iload 5, 2) := by decide +kernel
theorem dX10_areAlike_377 : decode cX10_areAlike 377 = .ok (.iadd, 1) := by decide +kernel
theorem dX10_areAlike_378 : decode cX10_areAlike 378 = .ok (.iaload, 1) := by decide +kernel
theorem dX10_areAlike_379 : decode cX10_areAlike 379 = .ok (.aload_n 0, 1) := by decide +kernel
theorem dX10_areAlike_380 : decode cX10_areAlike 380 = .ok (.getfield 7, 3) := by decide +kernel
theorem dX10_areAlike_383 : decode cX10_areAlike 383 = .ok (.sipush 201, 3) := by decide +kernel
theorem dX10_areAlike_386 : decode cX10_areAlike 386 = .ok (.iload 6, 2) := by decide +kernel
theorem dX10_areAlike_388 : decode cX10_areAlike 388 = .ok (.iadd, 1) := by decide +kernel
theorem dX10_areAlike_389 : decode cX10_areAlike 389 = .ok (.iaload, 1) := by decide +kernel
theorem dX10_areAlike_390 : decode cX10_areAlike 390 = .ok (.invokevirtual 307, 3) := by decide +kernel
theorem dX10_areAlike_393 : decode cX10_areAlike 393 = .ok (.ifCond .eq 7, 3) := by decide +kernel
theorem dX10_areAlike_396 : decode cX10_areAlike 396 = .ok (.iconst 1, 1) := by decide +kernel
theorem dX10_areAlike_397 : decode cX10_areAlike 397 = .ok (.goto 4, 3) := by decide +kernel
theorem dX10_areAlike_400 : decode cX10_areAlike 400 = .ok (.iconst 0, 1) := by decide +kernel
theorem dX10_areAlike_401 : decode cX10_areAlike 401 = .ok (.istore 4, 2) := by decide +kernel
theorem dX10_areAlike_403 : decode cX10_areAlike 403 = .ok (.iinc 5 1, 3) := by decide +kernel
theorem dX10_areAlike_406 : decode cX10_areAlike 406 = .ok (.goto (-376), 3) := by decide +kernel
theorem dX10_areAlike_409 : decode cX10_areAlike 409 = .ok (.iload 4, 2) := by decide +kernel
theorem dX10_areAlike_411 : decode cX10_areAlike 411 = .ok (.ireturn, 1) := by decide +kernel
set_option maxHeartbeats 4000000 in
set_option maxRecDepth 10000 in
theorem vX10_areAlike_0 {l : Launch} {M : sl_M} {Q : sl_R} {x1 x2 x3 : Int} (H : sl_RM M → sl_rg x1 → sl_rg x2 → sl_rg x3 → sl_At l mX10_areAlike 3 [(0, vR 1 0), (1, vI x1), (2, vI x2), (3, vI x3), (4, vI 0)] [] M Q) : sl_At l mX10_areAlike 0 [(0, vR 1 0), (1, vI x1), (2, vI x2), (3, vI x3)] [] M Q := by
  refine sl_At.in (fun hM hls => ?_)
  have g1 : sl_rg x1 := hls _ (List.mem_of_getElem? (i := 1) rfl)
  have g2 : sl_rg x2 := hls _ (List.mem_of_getElem? (i := 2) rfl)
  have g3 : sl_rg x3 := hls _ (List.mem_of_getElem? (i := 3) rfl)
  have H := H hM g1 g2 g3
  refine r_iconst dX10_areAlike_0 ?_
  refine r_istore (ls' := [(4, vI 0), (0, vR 1 0), (1, vI x1), (2, vI x2), (3, vI x3)]) ⟨by decide, by decide⟩ (by decide) rfl dX10_areAlike_1 ?_
  exact sl_At.sub [1, 2, 3, 4, 0] rfl H
set_option maxHeartbeats 4000000 in
set_option maxRecDepth 10000 in
theorem vX10_areAlike_3 {l : Launch} {M : sl_M} {Q : sl_R} {x1 x2 x3 x4 : Int} (H : sl_RM M → sl_rg x1 → sl_rg x2 → sl_rg x3 → sl_rg x4 → ((8 ≤ x4) → sl_At l mX10_areAlike 30 [(0, vR 1 0), (1, vI x1), (2, vI x2), (3, vI x3), (4, vI 1), (5, vI x1)] [] M Q) ∧ ((¬ (8 ≤ x4)) → (0 ≤ x4 ∧ x4 < 8) ∧ (∀ M3, M3 = sl_wr M 1 50 x4 (-1) → (sl_rg (x4 + 1)) ∧ sl_At l mX10_areAlike 3 [(0, vR 1 0), (1, vI x1), (2, vI x2), (3, vI x3), (4, vI (x4 + 1))] [] M3 Q))) : sl_At l mX10_areAlike 3 [(0, vR 1 0), (1, vI x1), (2, vI x2), (3, vI x3), (4, vI x4)] [] M Q := by
  refine sl_At.in (fun hM hls => ?_)
  have g1 : sl_rg x1 := hls _ (List.mem_of_getElem? (i := 1) rfl)
  have g2 : sl_rg x2 := hls _ (List.mem_of_getElem? (i := 2) rfl)
  have g3 : sl_rg x3 := hls _ (List.mem_of_getElem? (i := 3) rfl)
  have g4 : sl_rg x4 := hls _ (List.mem_of_getElem? (i := 4) rfl)
  have H := H hM g1 g2 g3 g4
  refine r_iload (k := 4) rfl dX10_areAlike_3 ?_
  refine r_bipush dX10_areAlike_5 (by decide) ?_
  refine r_icmp_ge (tgt := 24) g4 ⟨by decide, by decide⟩ dX10_areAlike_7 (by decide) (fun h1 => ?_) (fun h1 => ?_)
  · have H := H.1 h1
    refine r_iconst dX10_areAlike_24 ?_
    refine r_istore (ls' := [(4, vI 1), (0, vR 1 0), (1, vI x1), (2, vI x2), (3, vI x3)]) ⟨by decide, by decide⟩ (by decide) rfl dX10_areAlike_25 ?_
    refine r_iload_n (k := 2) rfl rfl dX10_areAlike_27 ?_
    refine r_istore (ls' := [(5, vI x1), (4, vI 1), (0, vR 1 0), (1, vI x1), (2, vI x2), (3, vI x3)]) g1 (by decide) rfl dX10_areAlike_28 ?_
    exact sl_At.sub [2, 3, 4, 5, 1, 0] rfl H
  · have H := H.2 h1
    refine r_aload_n (k := 0) rfl rfl dX10_areAlike_10 ?_
    refine r_getR (k := 49) (o' := 1) (i' := 50) ckX10 rfl rfl (by decide) rfl rfl rfl fl_X10_98 dX10_areAlike_11 ?_
    refine r_iload (k := 4) rfl dX10_areAlike_14 ?_
    refine r_iconst dX10_areAlike_16 ?_
    obtain ⟨c2, H⟩ := H
    refine r_iast rfl rfl rfl c2 ⟨by decide, by decide⟩ dX10_areAlike_17 ?_
    refine r_mm (fun M3 e3 => ?_)
    have H := H M3 e3
    have hM3 : sl_RM M3 := by rw [e3]; exact sl_wr_RM hM ⟨by decide, by decide⟩
    obtain ⟨c4, H⟩ := H
    refine r_iinc (k := 4) (ls' := [(4, vI (x4 + 1)), (0, vR 1 0), (1, vI x1), (2, vI x2), (3, vI x3)]) rfl c4 (by decide) rfl dX10_areAlike_18 ?_
    refine r_goto (tgt := 3) dX10_areAlike_21 (by decide) ?_
    exact sl_At.sub [1, 2, 3, 4, 0] rfl H
set_option maxHeartbeats 4000000 in
set_option maxRecDepth 10000 in
theorem vX10_areAlike_30 {l : Launch} {M : sl_M} {Q : sl_R} {x1 x2 x3 x4 x5 : Int} (H : sl_RM M → sl_rg x1 → sl_rg x2 → sl_rg x3 → sl_rg x4 → sl_rg x5 → ((x2 ≤ x5) → (x4 = 0 ∨ x4 = 1) ∧ Q (some (vI x4)) M) ∧ ((¬ (x2 ≤ x5)) → ((x4 = 0) → (x4 = 0 ∨ x4 = 1) ∧ Q (some (vI x4)) M) ∧ ((¬ (x4 = 0)) → (sl_rg (x3 + x5 - x1)) ∧ (∀ y6 : Int, y6 = x3 + x5 - x1 → (0 ≤ 1 + x5 ∧ 1 + x5 < 990) ∧ (0 ≤ 1 + y6 ∧ 1 + y6 < 990) ∧ (((¬ (M 1 1 (1 + x5) ≠ M 1 1 (1 + y6))) → (0 ≤ 41 + x5 ∧ 41 + x5 < 990) ∧ (0 ≤ 41 + y6 ∧ 41 + y6 < 990) ∧ (sl_rg (M 1 1 (41 + x5) - x5)) ∧ (sl_rg (M 1 1 (41 + y6) - y6)) ∧ ((¬ (M 1 1 (41 + x5) - x5 ≠ M 1 1 (41 + y6) - y6)) → (0 ≤ 161 + x5 ∧ 161 + x5 < 990) ∧ (0 ≤ 161 + y6 ∧ 161 + y6 < 990) ∧ ((¬ (M 1 1 (161 + x5) ≠ M 1 1 (161 + y6))) → (0 ≤ 241 + x5 ∧ 241 + x5 < 990) ∧ (0 ≤ 241 + y6 ∧ 241 + y6 < 990))))) ∧ (∀ y21 : Int, y21 = (if (¬ (M 1 1 (1 + x5) ≠ M 1 1 (1 + y6))) ∧ ((¬ (M 1 1 (41 + x5) - x5 ≠ M 1 1 (41 + y6) - y6)) ∧ ((¬ (M 1 1 (161 + x5) ≠ M 1 1 (161 + y6))) ∧ (¬ (M 1 1 (241 + x5) ≠ M 1 1 (241 + y6))))) then 1 else 0) → ((((¬ (M 1 1 (1 + x5) ≠ M 1 1 (1 + y6))) ∧ ((¬ (M 1 1 (41 + x5) - x5 ≠ M 1 1 (41 + y6) - y6)) ∧ ((¬ (M 1 1 (161 + x5) ≠ M 1 1 (161 + y6))) ∧ (¬ (M 1 1 (241 + x5) ≠ M 1 1 (241 + y6)))))) → ((¬ (x5 = x1)) → (0 ≤ 121 + x5 ∧ 121 + x5 < 990) ∧ (0 ≤ 121 + y6 ∧ 121 + y6 < 990) ∧ ((¬ (M 1 1 (121 + x5) = M 1 1 (121 + y6))) → (0 ≤ 81 + x5 ∧ 81 + x5 < 990) ∧ (0 ≤ 81 + x1 ∧ 81 + x1 < 990))))) ∧ (∀ y30 : Int, y30 = (if ((¬ (M 1 1 (1 + x5) ≠ M 1 1 (1 + y6))) ∧ ((¬ (M 1 1 (41 + x5) - x5 ≠ M 1 1 (41 + y6) - y6)) ∧ ((¬ (M 1 1 (161 + x5) ≠ M 1 1 (161 + y6))) ∧ (¬ (M 1 1 (241 + x5) ≠ M 1 1 (241 + y6)))))) ∧ ((x5 = x1) ∨ ((M 1 1 (121 + x5) = M 1 1 (121 + y6)) ∨ (¬ (M 1 1 (81 + x5) ≠ M 1 1 (81 + x1))))) then 1 else 0) → sl_At l mX10_areAlike 222 [(0, vR 1 0), (1, vI x1), (2, vI x2), (3, vI x3), (4, vI y30), (5, vI x5), (6, vI y6), (7, vI 0)] [] M Q)))))) : sl_At l mX10_areAlike 30 [(0, vR 1 0), (1, vI x1), (2, vI x2), (3, vI x3), (4, vI x4), (5, vI x5)] [] M Q := by
  refine sl_At.in (fun hM hls => ?_)
  have g1 : sl_rg x1 := hls _ (List.mem_of_getElem? (i := 1) rfl)
  have g2 : sl_rg x2 := hls _ (List.mem_of_getElem? (i := 2) rfl)
  have g3 : sl_rg x3 := hls _ (List.mem_of_getElem? (i := 3) rfl)
  have g4 : sl_rg x4 := hls _ (List.mem_of_getElem? (i := 4) rfl)
  have g5 : sl_rg x5 := hls _ (List.mem_of_getElem? (i := 5) rfl)
  have H := H hM g1 g2 g3 g4 g5
  refine r_iload (k := 5) rfl dX10_areAlike_30 ?_
  refine r_iload_n (k := 2) rfl rfl dX10_areAlike_32 ?_
  refine r_icmp_ge (tgt := 409) g5 g2 dX10_areAlike_33 (by decide) (fun h1 => ?_) (fun h1 => ?_)
  · have H := H.1 h1
    refine r_iload (k := 4) rfl dX10_areAlike_409 ?_
    obtain ⟨c2, H⟩ := H
    refine r_zret rfl c2 dX10_areAlike_411 ?_
    exact H
  · have H := H.2 h1
    refine r_iload (k := 4) rfl dX10_areAlike_36 ?_
    refine r_if_eq (tgt := 409) g4 dX10_areAlike_38 (by decide) (fun h3 => ?_) (fun h3 => ?_)
    · have H := H.1 h3
      refine r_iload (k := 4) rfl dX10_areAlike_409 ?_
      obtain ⟨c4, H⟩ := H
      refine r_zret rfl c4 dX10_areAlike_411 ?_
      exact H
    · have H := H.2 h3
      refine r_iload_n (k := 3) rfl rfl dX10_areAlike_41 ?_
      refine r_iload (k := 5) rfl dX10_areAlike_42 ?_
      refine r_iadd dX10_areAlike_44 ?_
      refine r_iload_n (k := 1) rfl rfl dX10_areAlike_45 ?_
      refine r_isub dX10_areAlike_46 ?_
      obtain ⟨c5, H⟩ := H
      refine r_nm (fun y6 fy6 => ?_)
      have H := H y6 fy6
      have gy6 : sl_rg y6 := by rw [fy6]; exact c5
      refine r_istore (ls' := [(6, vI y6), (0, vR 1 0), (1, vI x1), (2, vI x2), (3, vI x3), (4, vI x4), (5, vI x5)]) gy6 (by decide) rfl dX10_areAlike_47 ?_
      refine r_aload_n (k := 1) rfl rfl dX10_areAlike_49 ?_
      refine r_getR (k := 0) (o' := 1) (i' := 1) ckX10 rfl rfl (by decide) rfl rfl rfl fl_X10_7 dX10_areAlike_50 ?_
      refine r_iconst dX10_areAlike_53 ?_
      refine r_iload (k := 6) rfl dX10_areAlike_54 ?_
      refine r_iadd dX10_areAlike_56 ?_
      obtain ⟨c7, H⟩ := H
      refine r_iald rfl rfl rfl c7 dX10_areAlike_57 ?_
      refine r_aload_n (k := 1) rfl rfl dX10_areAlike_58 ?_
      refine r_getR (k := 0) (o' := 1) (i' := 1) ckX10 rfl rfl (by decide) rfl rfl rfl fl_X10_7 dX10_areAlike_59 ?_
      refine r_iconst dX10_areAlike_62 ?_
      refine r_iload (k := 0) rfl dX10_areAlike_63 ?_
      refine r_iadd dX10_areAlike_65 ?_
      obtain ⟨c8, H⟩ := H
      refine r_iald rfl rfl rfl c8 dX10_areAlike_66 ?_
      obtain ⟨K, H⟩ := H
      have J : sl_At l mX10_areAlike 154 [(6, vI y6), (0, vR 1 0), (1, vI x1), (2, vI x2), (3, vI x3), (4, vI x4), (5, vI x5)] [vI (if (¬ (M 1 1 (1 + x5) ≠ M 1 1 (1 + y6))) ∧ ((¬ (M 1 1 (41 + x5) - x5 ≠ M 1 1 (41 + y6) - y6)) ∧ ((¬ (M 1 1 (161 + x5) ≠ M 1 1 (161 + y6))) ∧ (¬ (M 1 1 (241 + x5) ≠ M 1 1 (241 + y6))))) then 1 else 0)] M Q := by
        refine r_nm (fun y21 fy21 => ?_)
        have H := H y21 fy21
        have gy21 : sl_rg y21 := by rw [fy21]; exact rg_b
        refine r_istore (ls' := [(4, vI y21), (6, vI y6), (0, vR 1 0), (1, vI x1), (2, vI x2), (3, vI x3), (5, vI x5)]) gy21 (by decide) rfl dX10_areAlike_154 ?_
        refine r_iload (k := 0) rfl dX10_areAlike_156 ?_
        obtain ⟨K, H⟩ := H
        have J : sl_At l mX10_areAlike 217 [(4, vI y21), (6, vI y6), (0, vR 1 0), (1, vI x1), (2, vI x2), (3, vI x3), (5, vI x5)] [vI (if ((¬ (M 1 1 (1 + x5) ≠ M 1 1 (1 + y6))) ∧ ((¬ (M 1 1 (41 + x5) - x5 ≠ M 1 1 (41 + y6) - y6)) ∧ ((¬ (M 1 1 (161 + x5) ≠ M 1 1 (161 + y6))) ∧ (¬ (M 1 1 (241 + x5) ≠ M 1 1 (241 + y6)))))) ∧ ((x5 = x1) ∨ ((M 1 1 (121 + x5) = M 1 1 (121 + y6)) ∨ (¬ (M 1 1 (81 + x5) ≠ M 1 1 (81 + x1))))) then 1 else 0)] M Q := by
          refine r_nm (fun y30 fy30 => ?_)
          have H := H y30 fy30
          have gy30 : sl_rg y30 := by rw [fy30]; exact rg_b
          refine r_istore (ls' := [(4, vI y30), (6, vI y6), (0, vR 1 0), (1, vI x1), (2, vI x2), (3, vI x3), (5, vI x5)]) gy30 (by decide) rfl dX10_areAlike_217 ?_
          refine r_iconst dX10_areAlike_219 ?_
          refine r_istore (ls' := [(7, vI 0), (4, vI y30), (6, vI y6), (0, vR 1 0), (1, vI x1), (2, vI x2), (3, vI x3), (5, vI x5)]) ⟨by decide, by decide⟩ (by decide) rfl dX10_areAlike_220 ?_
          exact sl_At.sub [3, 4, 5, 6, 1, 7, 2, 0] rfl H
        refine r_if_eq (tgt := 216) gy21 dX10_areAlike_158 (by decide) (fun h26 => ?_) (fun h26 => ?_)
        · replace h26 := (b_eq0.mp (fy21.symm.trans h26))
          refine r_iconst dX10_areAlike_216 ?_
          rw [if_neg (show ¬ (((¬ (M 1 1 (1 + x5) ≠ M 1 1 (1 + y6))) ∧ ((¬ (M 1 1 (41 + x5) - x5 ≠ M 1 1 (41 + y6) - y6)) ∧ ((¬ (M 1 1 (161 + x5) ≠ M 1 1 (161 + y6))) ∧ (¬ (M 1 1 (241 + x5) ≠ M 1 1 (241 + y6)))))) ∧ ((x5 = x1) ∨ ((M 1 1 (121 + x5) = M 1 1 (121 + y6)) ∨ (¬ (M 1 1 (81 + x5) ≠ M 1 1 (81 + x1)))))) by omega)] at J
          exact J
        · replace h26 := (b_ne0.mp (fun q => h26 (fy21.trans q)))
          replace K := K h26
          refine r_iload (k := 6) rfl dX10_areAlike_161 ?_
          refine r_iload_n (k := 3) rfl rfl dX10_areAlike_163 ?_
          refine r_icmp_eq (tgt := 212) g5 g1 dX10_areAlike_164 (by decide) (fun h27 => ?_) (fun h27 => ?_)
          · refine r_iconst dX10_areAlike_212 ?_
            refine r_goto (tgt := 217) dX10_areAlike_213 (by decide) ?_
            rw [if_pos (show ((¬ (M 1 1 (1 + x5) ≠ M 1 1 (1 + y6))) ∧ ((¬ (M 1 1 (41 + x5) - x5 ≠ M 1 1 (41 + y6) - y6)) ∧ ((¬ (M 1 1 (161 + x5) ≠ M 1 1 (161 + y6))) ∧ (¬ (M 1 1 (241 + x5) ≠ M 1 1 (241 + y6)))))) ∧ ((x5 = x1) ∨ ((M 1 1 (121 + x5) = M 1 1 (121 + y6)) ∨ (¬ (M 1 1 (81 + x5) ≠ M 1 1 (81 + x1))))) by omega)] at J
            exact J
          · replace K := K h27
            obtain ⟨c22, K⟩ := K
            obtain ⟨c23, K⟩ := K
            refine r_aload_n (k := 2) rfl rfl dX10_areAlike_167 ?_
            refine r_getR (k := 0) (o' := 1) (i' := 1) ckX10 rfl rfl (by decide) rfl rfl rfl fl_X10_7 dX10_areAlike_168 ?_
            refine r_bipush dX10_areAlike_171 (by decide) ?_
            refine r_iload (k := 6) rfl dX10_areAlike_173 ?_
            refine r_iadd dX10_areAlike_175 ?_
            refine r_iald rfl rfl rfl c22 dX10_areAlike_176 ?_
            refine r_aload_n (k := 2) rfl rfl dX10_areAlike_177 ?_
            refine r_getR (k := 0) (o' := 1) (i' := 1) ckX10 rfl rfl (by decide) rfl rfl rfl fl_X10_7 dX10_areAlike_178 ?_
            refine r_bipush dX10_areAlike_181 (by decide) ?_
            refine r_iload (k := 1) rfl dX10_areAlike_183 ?_
            refine r_iadd dX10_areAlike_185 ?_
            refine r_iald rfl rfl rfl c23 dX10_areAlike_186 ?_
            refine r_icmp_eq (tgt := 212) (hM _ _ _) (hM _ _ _) dX10_areAlike_187 (by decide) (fun h28 => ?_) (fun h28 => ?_)
            · refine r_iconst dX10_areAlike_212 ?_
              refine r_goto (tgt := 217) dX10_areAlike_213 (by decide) ?_
              rw [if_pos (show ((¬ (M 1 1 (1 + x5) ≠ M 1 1 (1 + y6))) ∧ ((¬ (M 1 1 (41 + x5) - x5 ≠ M 1 1 (41 + y6) - y6)) ∧ ((¬ (M 1 1 (161 + x5) ≠ M 1 1 (161 + y6))) ∧ (¬ (M 1 1 (241 + x5) ≠ M 1 1 (241 + y6)))))) ∧ ((x5 = x1) ∨ ((M 1 1 (121 + x5) = M 1 1 (121 + y6)) ∨ (¬ (M 1 1 (81 + x5) ≠ M 1 1 (81 + x1))))) by omega)] at J
              exact J
            · replace K := K h28
              obtain ⟨c24, K⟩ := K
              have c25 := K
              refine r_aload_n (k := 2) rfl rfl dX10_areAlike_190 ?_
              refine r_getR (k := 0) (o' := 1) (i' := 1) ckX10 rfl rfl (by decide) rfl rfl rfl fl_X10_7 dX10_areAlike_191 ?_
              refine r_bipush dX10_areAlike_194 (by decide) ?_
              refine r_iload (k := 6) rfl dX10_areAlike_196 ?_
              refine r_iadd dX10_areAlike_198 ?_
              refine r_iald rfl rfl rfl c24 dX10_areAlike_199 ?_
              refine r_aload_n (k := 2) rfl rfl dX10_areAlike_200 ?_
              refine r_getR (k := 0) (o' := 1) (i' := 1) ckX10 rfl rfl (by decide) rfl rfl rfl fl_X10_7 dX10_areAlike_201 ?_
              refine r_bipush dX10_areAlike_204 (by decide) ?_
              refine r_iload_n (k := 3) rfl rfl dX10_areAlike_206 ?_
              refine r_iadd dX10_areAlike_207 ?_
              refine r_iald rfl rfl rfl c25 dX10_areAlike_208 ?_
              refine r_icmp_ne (tgt := 216) (hM _ _ _) (hM _ _ _) dX10_areAlike_209 (by decide) (fun h29 => ?_) (fun h29 => ?_)
              · refine r_iconst dX10_areAlike_216 ?_
                rw [if_neg (show ¬ (((¬ (M 1 1 (1 + x5) ≠ M 1 1 (1 + y6))) ∧ ((¬ (M 1 1 (41 + x5) - x5 ≠ M 1 1 (41 + y6) - y6)) ∧ ((¬ (M 1 1 (161 + x5) ≠ M 1 1 (161 + y6))) ∧ (¬ (M 1 1 (241 + x5) ≠ M 1 1 (241 + y6)))))) ∧ ((x5 = x1) ∨ ((M 1 1 (121 + x5) = M 1 1 (121 + y6)) ∨ (¬ (M 1 1 (81 + x5) ≠ M 1 1 (81 + x1)))))) by omega)] at J
                exact J
              · refine r_iconst dX10_areAlike_212 ?_
                refine r_goto (tgt := 217) dX10_areAlike_213 (by decide) ?_
                rw [if_pos (show ((¬ (M 1 1 (1 + x5) ≠ M 1 1 (1 + y6))) ∧ ((¬ (M 1 1 (41 + x5) - x5 ≠ M 1 1 (41 + y6) - y6)) ∧ ((¬ (M 1 1 (161 + x5) ≠ M 1 1 (161 + y6))) ∧ (¬ (M 1 1 (241 + x5) ≠ M 1 1 (241 + y6)))))) ∧ ((x5 = x1) ∨ ((M 1 1 (121 + x5) = M 1 1 (121 + y6)) ∨ (¬ (M 1 1 (81 + x5) ≠ M 1 1 (81 + x1))))) by omega)] at J
                exact J
      refine r_icmp_ne (tgt := 153) (hM _ _ _) (hM _ _ _) dX10_areAlike_67 (by decide) (fun h17 => ?_) (fun h17 => ?_)
      · refine r_iconst dX10_areAlike_153 ?_
        rw [if_neg (show ¬ ((¬ (M 1 1 (1 + x5) ≠ M 1 1 (1 + y6))) ∧ ((¬ (M 1 1 (41 + x5) - x5 ≠ M 1 1 (41 + y6) - y6)) ∧ ((¬ (M 1 1 (161 + x5) ≠ M 1 1 (161 + y6))) ∧ (¬ (M 1 1 (241 + x5) ≠ M 1 1 (241 + y6)))))) by omega)] at J
        exact J
      · replace K := K h17
        obtain ⟨c9, K⟩ := K
        obtain ⟨c10, K⟩ := K
        obtain ⟨c11, K⟩ := K
        obtain ⟨c12, K⟩ := K
        refine r_aload_n (k := 1) rfl rfl dX10_areAlike_70 ?_
        refine r_getR (k := 0) (o' := 1) (i' := 1) ckX10 rfl rfl (by decide) rfl rfl rfl fl_X10_7 dX10_areAlike_71 ?_
        refine r_bipush dX10_areAlike_74 (by decide) ?_
        refine r_iload (k := 6) rfl dX10_areAlike_76 ?_
        refine r_iadd dX10_areAlike_78 ?_
        refine r_iald rfl rfl rfl c9 dX10_areAlike_79 ?_
        refine r_iload (k := 6) rfl dX10_areAlike_80 ?_
        refine r_isub dX10_areAlike_82 ?_
        refine r_aload_n (k := 1) rfl rfl dX10_areAlike_83 ?_
        refine r_getR (k := 0) (o' := 1) (i' := 1) ckX10 rfl rfl (by decide) rfl rfl rfl fl_X10_7 dX10_areAlike_84 ?_
        refine r_bipush dX10_areAlike_87 (by decide) ?_
        refine r_iload (k := 0) rfl dX10_areAlike_89 ?_
        refine r_iadd dX10_areAlike_91 ?_
        refine r_iald rfl rfl rfl c10 dX10_areAlike_92 ?_
        refine r_iload (k := 0) rfl dX10_areAlike_93 ?_
        refine r_isub dX10_areAlike_95 ?_
        refine r_icmp_ne (tgt := 153) c11 c12 dX10_areAlike_96 (by decide) (fun h18 => ?_) (fun h18 => ?_)
        · refine r_iconst dX10_areAlike_153 ?_
          rw [if_neg (show ¬ ((¬ (M 1 1 (1 + x5) ≠ M 1 1 (1 + y6))) ∧ ((¬ (M 1 1 (41 + x5) - x5 ≠ M 1 1 (41 + y6) - y6)) ∧ ((¬ (M 1 1 (161 + x5) ≠ M 1 1 (161 + y6))) ∧ (¬ (M 1 1 (241 + x5) ≠ M 1 1 (241 + y6)))))) by omega)] at J
          exact J
        · replace K := K h18
          obtain ⟨c13, K⟩ := K
          obtain ⟨c14, K⟩ := K
          refine r_aload_n (k := 1) rfl rfl dX10_areAlike_99 ?_
          refine r_getR (k := 0) (o' := 1) (i' := 1) ckX10 rfl rfl (by decide) rfl rfl rfl fl_X10_7 dX10_areAlike_100 ?_
          refine r_sipush dX10_areAlike_103 (by decide) ?_
          refine r_iload (k := 6) rfl dX10_areAlike_106 ?_
          refine r_iadd dX10_areAlike_108 ?_
          refine r_iald rfl rfl rfl c13 dX10_areAlike_109 ?_
          refine r_aload_n (k := 1) rfl rfl dX10_areAlike_110 ?_
          refine r_getR (k := 0) (o' := 1) (i' := 1) ckX10 rfl rfl (by decide) rfl rfl rfl fl_X10_7 dX10_areAlike_111 ?_
          refine r_sipush dX10_areAlike_114 (by decide) ?_
          refine r_iload (k := 0) rfl dX10_areAlike_117 ?_
          refine r_iadd dX10_areAlike_119 ?_
          refine r_iald rfl rfl rfl c14 dX10_areAlike_120 ?_
          refine r_icmp_ne (tgt := 153) (hM _ _ _) (hM _ _ _) dX10_areAlike_121 (by decide) (fun h19 => ?_) (fun h19 => ?_)
          · refine r_iconst dX10_areAlike_153 ?_
            rw [if_neg (show ¬ ((¬ (M 1 1 (1 + x5) ≠ M 1 1 (1 + y6))) ∧ ((¬ (M 1 1 (41 + x5) - x5 ≠ M 1 1 (41 + y6) - y6)) ∧ ((¬ (M 1 1 (161 + x5) ≠ M 1 1 (161 + y6))) ∧ (¬ (M 1 1 (241 + x5) ≠ M 1 1 (241 + y6)))))) by omega)] at J
            exact J
          · replace K := K h19
            obtain ⟨c15, K⟩ := K
            have c16 := K
            refine r_aload_n (k := 1) rfl rfl dX10_areAlike_124 ?_
            refine r_getR (k := 0) (o' := 1) (i' := 1) ckX10 rfl rfl (by decide) rfl rfl rfl fl_X10_7 dX10_areAlike_125 ?_
            refine r_sipush dX10_areAlike_128 (by decide) ?_
            refine r_iload (k := 6) rfl dX10_areAlike_131 ?_
            refine r_iadd dX10_areAlike_133 ?_
            refine r_iald rfl rfl rfl c15 dX10_areAlike_134 ?_
            refine r_aload_n (k := 1) rfl rfl dX10_areAlike_135 ?_
            refine r_getR (k := 0) (o' := 1) (i' := 1) ckX10 rfl rfl (by decide) rfl rfl rfl fl_X10_7 dX10_areAlike_136 ?_
            refine r_sipush dX10_areAlike_139 (by decide) ?_
            refine r_iload (k := 0) rfl dX10_areAlike_142 ?_
            refine r_iadd dX10_areAlike_144 ?_
            refine r_iald rfl rfl rfl c16 dX10_areAlike_145 ?_
            refine r_icmp_ne (tgt := 153) (hM _ _ _) (hM _ _ _) dX10_areAlike_146 (by decide) (fun h20 => ?_) (fun h20 => ?_)
            · refine r_iconst dX10_areAlike_153 ?_
              rw [if_neg (show ¬ ((¬ (M 1 1 (1 + x5) ≠ M 1 1 (1 + y6))) ∧ ((¬ (M 1 1 (41 + x5) - x5 ≠ M 1 1 (41 + y6) - y6)) ∧ ((¬ (M 1 1 (161 + x5) ≠ M 1 1 (161 + y6))) ∧ (¬ (M 1 1 (241 + x5) ≠ M 1 1 (241 + y6)))))) by omega)] at J
              exact J
            · refine r_iconst dX10_areAlike_149 ?_
              refine r_goto (tgt := 154) dX10_areAlike_150 (by decide) ?_
              rw [if_pos (show (¬ (M 1 1 (1 + x5) ≠ M 1 1 (1 + y6))) ∧ ((¬ (M 1 1 (41 + x5) - x5 ≠ M 1 1 (41 + y6) - y6)) ∧ ((¬ (M 1 1 (161 + x5) ≠ M 1 1 (161 + y6))) ∧ (¬ (M 1 1 (241 + x5) ≠ M 1 1 (241 + y6))))) by omega)] at J
              exact J
set_option maxHeartbeats 4000000 in
set_option maxRecDepth 10000 in
theorem vX10_areAlike_222 {l : Launch} {M : sl_M} {Q : sl_R} {x1 x2 x3 x4 x5 x6 x7 : Int} (H : sl_RM M → sl_rg x1 → sl_rg x2 → sl_rg x3 → sl_rg x4 → sl_rg x5 → sl_rg x6 → sl_rg x7 → ((x4 = 0) → sl_At l mX10_areAlike 350 [(0, vR 1 0), (1, vI x1), (2, vI x2), (3, vI x3), (4, vI x4), (5, vI x5), (6, vI x6)] [] M Q) ∧ ((¬ (x4 = 0)) → (0 ≤ 241 + x5 ∧ 241 + x5 < 990) ∧ ((M 1 1 (241 + x5) ≤ x7) → sl_At l mX10_areAlike 350 [(0, vR 1 0), (1, vI x1), (2, vI x2), (3, vI x3), (4, vI x4), (5, vI x5), (6, vI x6)] [] M Q) ∧ ((¬ (M 1 1 (241 + x5) ≤ x7)) → (0 ≤ (281 + (12 * x5)) + x7 ∧ (281 + (12 * x5)) + x7 < 990) ∧ (0 ≤ (281 + (12 * x6)) + x7 ∧ (281 + (12 * x6)) + x7 < 990) ∧ ((¬ (97 ≤ (M 1 1 ((281 + (12 * x5)) + x7)) ∧ (M 1 1 ((281 + (12 * x5)) + x7)) ≤ 104)) → (∀ y8 : Int, y8 = (if ¬ (M 1 1 ((281 + (12 * x5)) + x7) ≠ M 1 1 ((281 + (12 * x6)) + x7)) then 1 else 0) → (sl_rg (x7 + 1)) ∧ sl_At l mX10_areAlike 222 [(0, vR 1 0), (1, vI x1), (2, vI x2), (3, vI x3), (4, vI y8), (5, vI x5), (6, vI x6), (7, vI (x7 + 1))] [] M Q)) ∧ ((97 ≤ (M 1 1 ((281 + (12 * x5)) + x7)) ∧ (M 1 1 ((281 + (12 * x5)) + x7)) ≤ 104) → ((¬ (97 ≤ (M 1 1 ((281 + (12 * x6)) + x7)) ∧ (M 1 1 ((281 + (12 * x6)) + x7)) ≤ 104)) → (sl_rg (x7 + 1)) ∧ sl_At l mX10_areAlike 222 [(0, vR 1 0), (1, vI x1), (2, vI x2), (3, vI x3), (4, vI 0), (5, vI x5), (6, vI x6), (7, vI (x7 + 1))] [] M Q) ∧ ((97 ≤ (M 1 1 ((281 + (12 * x6)) + x7)) ∧ (M 1 1 ((281 + (12 * x6)) + x7)) ≤ 104) → (sl_rg ((M 1 1 ((281 + (12 * x5)) + x7)) - 97)) ∧ (sl_rg ((M 1 1 ((281 + (12 * x6)) + x7)) - 97)) ∧ sl_RI l mX10_answersTo [vR 1 0, vI ((M 1 1 ((281 + (12 * x5)) + x7)) - 97), vI ((M 1 1 ((281 + (12 * x6)) + x7)) - 97)] M (fun y15 M14 => (∀ y17 : Int, y17 = (if ¬ (y15 = 0) then 1 else 0) → (sl_rg (x7 + 1)) ∧ sl_At l mX10_areAlike 222 [(0, vR 1 0), (1, vI x1), (2, vI x2), (3, vI x3), (4, vI y17), (5, vI x5), (6, vI x6), (7, vI (x7 + 1))] [] M14 Q))))))) : sl_At l mX10_areAlike 222 [(0, vR 1 0), (1, vI x1), (2, vI x2), (3, vI x3), (4, vI x4), (5, vI x5), (6, vI x6), (7, vI x7)] [] M Q := by
  refine sl_At.in (fun hM hls => ?_)
  have g1 : sl_rg x1 := hls _ (List.mem_of_getElem? (i := 1) rfl)
  have g2 : sl_rg x2 := hls _ (List.mem_of_getElem? (i := 2) rfl)
  have g3 : sl_rg x3 := hls _ (List.mem_of_getElem? (i := 3) rfl)
  have g4 : sl_rg x4 := hls _ (List.mem_of_getElem? (i := 4) rfl)
  have g5 : sl_rg x5 := hls _ (List.mem_of_getElem? (i := 5) rfl)
  have g6 : sl_rg x6 := hls _ (List.mem_of_getElem? (i := 6) rfl)
  have g7 : sl_rg x7 := hls _ (List.mem_of_getElem? (i := 7) rfl)
  have H := H hM g1 g2 g3 g4 g5 g6 g7
  refine r_iload (k := 4) rfl dX10_areAlike_222 ?_
  refine r_if_eq (tgt := 350) g4 dX10_areAlike_224 (by decide) (fun h1 => ?_) (fun h1 => ?_)
  · have H := H.1 h1
    exact sl_At.sub [0, 1, 2, 3, 4, 5, 6] rfl H
  · have H := H.2 h1
    refine r_iload (k := 7) rfl dX10_areAlike_227 ?_
    refine r_aload_n (k := 0) rfl rfl dX10_areAlike_229 ?_
    refine r_getR (k := 0) (o' := 1) (i' := 1) ckX10 rfl rfl (by decide) rfl rfl rfl fl_X10_7 dX10_areAlike_230 ?_
    refine r_sipush dX10_areAlike_233 (by decide) ?_
    refine r_iload (k := 5) rfl dX10_areAlike_236 ?_
    refine r_iadd dX10_areAlike_238 ?_
    obtain ⟨c2, H⟩ := H
    refine r_iald rfl rfl rfl c2 dX10_areAlike_239 ?_
    refine r_icmp_ge (tgt := 350) g7 (hM _ _ _) dX10_areAlike_240 (by decide) (fun h3 => ?_) (fun h3 => ?_)
    · have H := H.1 h3
      exact sl_At.sub [0, 1, 2, 3, 4, 5, 6] rfl H
    · have H := H.2 h3
      refine r_aload_n (k := 0) rfl rfl dX10_areAlike_243 ?_
      refine r_getR (k := 0) (o' := 1) (i' := 1) ckX10 rfl rfl (by decide) rfl rfl rfl fl_X10_7 dX10_areAlike_244 ?_
      refine r_sipush dX10_areAlike_247 (by decide) ?_
      refine r_bipush dX10_areAlike_250 (by decide) ?_
      refine r_iload (k := 5) rfl dX10_areAlike_252 ?_
      refine r_imul dX10_areAlike_254 ?_
      refine r_iadd dX10_areAlike_255 ?_
      refine r_iload (k := 7) rfl dX10_areAlike_256 ?_
      refine r_iadd dX10_areAlike_258 ?_
      obtain ⟨c4, H⟩ := H
      refine r_iald rfl rfl rfl c4 dX10_areAlike_259 ?_
      refine r_istore (ls' := [(8, vI (M 1 1 ((281 + (12 * x5)) + x7))), (0, vR 1 0), (1, vI x1), (2, vI x2), (3, vI x3), (4, vI x4), (5, vI x5), (6, vI x6), (7, vI x7)]) (hM _ _ _) (by decide) rfl dX10_areAlike_260 ?_
      refine r_aload_n (k := 1) rfl rfl dX10_areAlike_262 ?_
      refine r_getR (k := 0) (o' := 1) (i' := 1) ckX10 rfl rfl (by decide) rfl rfl rfl fl_X10_7 dX10_areAlike_263 ?_
      refine r_sipush dX10_areAlike_266 (by decide) ?_
      refine r_bipush dX10_areAlike_269 (by decide) ?_
      refine r_iload (k := 7) rfl dX10_areAlike_271 ?_
      refine r_imul dX10_areAlike_273 ?_
      refine r_iadd dX10_areAlike_274 ?_
      refine r_iload (k := 8) rfl dX10_areAlike_275 ?_
      refine r_iadd dX10_areAlike_277 ?_
      obtain ⟨c5, H⟩ := H
      refine r_iald rfl rfl rfl c5 dX10_areAlike_278 ?_
      refine r_istore (ls' := [(9, vI (M 1 1 ((281 + (12 * x6)) + x7))), (8, vI (M 1 1 ((281 + (12 * x5)) + x7))), (0, vR 1 0), (1, vI x1), (2, vI x2), (3, vI x3), (4, vI x4), (5, vI x5), (6, vI x6), (7, vI x7)]) (hM _ _ _) (by decide) rfl dX10_areAlike_279 ?_
      refine r_iload (k := 1) rfl dX10_areAlike_281 ?_
      refine r_bipush dX10_areAlike_283 (by decide) ?_
      refine r_bipush dX10_areAlike_285 (by decide) ?_
      refine r_callS (g := mX10_in) rfl mkX10_in msX10_in ml_X10_135 ⟨by decide, by decide⟩ rfl (Nat.le_of_ble_eq_true rfl) rfl (ok_i (hM _ _ _) (ok_i ⟨by decide, by decide⟩ (ok_i ⟨by decide, by decide⟩ ok_n))) dX10_areAlike_287 (sl_afterI (sl_RI.by kX10_in ?_))
      refine r_if_eq (tgt := 330) rg_b dX10_areAlike_290 (by decide) (fun h6 => ?_) (fun h6 => ?_)
      · have H := H.1 (b_eq0.mp h6)
        refine r_iload (k := 1) rfl dX10_areAlike_330 ?_
        refine r_iload (k := 0) rfl dX10_areAlike_332 ?_
        have J : sl_At l mX10_areAlike 342 [(9, vI (M 1 1 ((281 + (12 * x6)) + x7))), (8, vI (M 1 1 ((281 + (12 * x5)) + x7))), (0, vR 1 0), (1, vI x1), (2, vI x2), (3, vI x3), (4, vI x4), (5, vI x5), (6, vI x6), (7, vI x7)] [vI (if ¬ (M 1 1 ((281 + (12 * x5)) + x7) ≠ M 1 1 ((281 + (12 * x6)) + x7)) then 1 else 0)] M Q := by
          refine r_nm (fun y8 fy8 => ?_)
          have H := H y8 fy8
          have gy8 : sl_rg y8 := by rw [fy8]; exact rg_b
          refine r_istore (ls' := [(4, vI y8), (9, vI (M 1 1 ((281 + (12 * x6)) + x7))), (8, vI (M 1 1 ((281 + (12 * x5)) + x7))), (0, vR 1 0), (1, vI x1), (2, vI x2), (3, vI x3), (5, vI x5), (6, vI x6), (7, vI x7)]) gy8 (by decide) rfl dX10_areAlike_342 ?_
          obtain ⟨c9, H⟩ := H
          refine r_iinc (k := 9) (ls' := [(7, vI (x7 + 1)), (4, vI y8), (9, vI (M 1 1 ((281 + (12 * x6)) + x7))), (8, vI (M 1 1 ((281 + (12 * x5)) + x7))), (0, vR 1 0), (1, vI x1), (2, vI x2), (3, vI x3), (5, vI x5), (6, vI x6)]) rfl c9 (by decide) rfl dX10_areAlike_344 ?_
          refine r_goto (tgt := 222) dX10_areAlike_347 (by decide) ?_
          exact sl_At.sub [4, 5, 6, 7, 1, 8, 9, 0] rfl H
        refine r_icmp_ne (tgt := 341) (hM _ _ _) (hM _ _ _) dX10_areAlike_334 (by decide) (fun h7 => ?_) (fun h7 => ?_)
        · refine r_iconst dX10_areAlike_341 ?_
          rw [if_neg (show ¬ (¬ (M 1 1 ((281 + (12 * x5)) + x7) ≠ M 1 1 ((281 + (12 * x6)) + x7))) by omega)] at J
          exact J
        · refine r_iconst dX10_areAlike_337 ?_
          refine r_goto (tgt := 342) dX10_areAlike_338 (by decide) ?_
          rw [if_pos (show ¬ (M 1 1 ((281 + (12 * x5)) + x7) ≠ M 1 1 ((281 + (12 * x6)) + x7)) by omega)] at J
          exact J
      · have H := H.2 (b_ne0.mp h6)
        refine r_iload (k := 0) rfl dX10_areAlike_293 ?_
        refine r_bipush dX10_areAlike_295 (by decide) ?_
        refine r_bipush dX10_areAlike_297 (by decide) ?_
        refine r_callS (g := mX10_in) rfl mkX10_in msX10_in ml_X10_135 ⟨by decide, by decide⟩ rfl (Nat.le_of_ble_eq_true rfl) rfl (ok_i (hM _ _ _) (ok_i ⟨by decide, by decide⟩ (ok_i ⟨by decide, by decide⟩ ok_n))) dX10_areAlike_299 (sl_afterI (sl_RI.by kX10_in ?_))
        refine r_if_eq (tgt := 326) rg_b dX10_areAlike_302 (by decide) (fun h10 => ?_) (fun h10 => ?_)
        · have H := H.1 (b_eq0.mp h10)
          refine r_iconst dX10_areAlike_326 ?_
          refine r_goto (tgt := 342) dX10_areAlike_327 (by decide) ?_
          refine r_istore (ls' := [(4, vI 0), (9, vI (M 1 1 ((281 + (12 * x6)) + x7))), (8, vI (M 1 1 ((281 + (12 * x5)) + x7))), (0, vR 1 0), (1, vI x1), (2, vI x2), (3, vI x3), (5, vI x5), (6, vI x6), (7, vI x7)]) ⟨by decide, by decide⟩ (by decide) rfl dX10_areAlike_342 ?_
          obtain ⟨c11, H⟩ := H
          refine r_iinc (k := 9) (ls' := [(7, vI (x7 + 1)), (4, vI 0), (9, vI (M 1 1 ((281 + (12 * x6)) + x7))), (8, vI (M 1 1 ((281 + (12 * x5)) + x7))), (0, vR 1 0), (1, vI x1), (2, vI x2), (3, vI x3), (5, vI x5), (6, vI x6)]) rfl c11 (by decide) rfl dX10_areAlike_344 ?_
          refine r_goto (tgt := 222) dX10_areAlike_347 (by decide) ?_
          exact sl_At.sub [4, 5, 6, 7, 1, 8, 9, 0] rfl H
        · have H := H.2 (b_ne0.mp h10)
          refine r_aload_n (k := 2) rfl rfl dX10_areAlike_305 ?_
          refine r_iload (k := 1) rfl dX10_areAlike_306 ?_
          refine r_bipush dX10_areAlike_308 (by decide) ?_
          refine r_isub dX10_areAlike_310 ?_
          refine r_iload (k := 0) rfl dX10_areAlike_311 ?_
          refine r_bipush dX10_areAlike_313 (by decide) ?_
          refine r_isub dX10_areAlike_315 ?_
          obtain ⟨c12, H⟩ := H
          obtain ⟨c13, H⟩ := H
          refine r_callV (g := mX10_answersTo) ckX10 rfl rfl rfl rfl mkX10_answersTo mvX10_answersTo ml_X10_307 ⟨by decide, by decide⟩ rfl (Nat.le_of_ble_eq_true rfl) rfl (ok_i c12 (ok_i c13 ok_n)) dX10_areAlike_316 (sl_afterI (sl_RI.mono (fun y15 M14 gy15 hM14 H => ?_) H))
          have J : sl_At l mX10_areAlike 342 [(9, vI (M 1 1 ((281 + (12 * x6)) + x7))), (8, vI (M 1 1 ((281 + (12 * x5)) + x7))), (0, vR 1 0), (1, vI x1), (2, vI x2), (3, vI x3), (4, vI x4), (5, vI x5), (6, vI x6), (7, vI x7)] [vI (if ¬ (y15 = 0) then 1 else 0)] M14 Q := by
            refine r_nm (fun y17 fy17 => ?_)
            have H := H y17 fy17
            have gy17 : sl_rg y17 := by rw [fy17]; exact rg_b
            refine r_istore (ls' := [(4, vI y17), (9, vI (M 1 1 ((281 + (12 * x6)) + x7))), (8, vI (M 1 1 ((281 + (12 * x5)) + x7))), (0, vR 1 0), (1, vI x1), (2, vI x2), (3, vI x3), (5, vI x5), (6, vI x6), (7, vI x7)]) gy17 (by decide) rfl dX10_areAlike_342 ?_
            obtain ⟨c18, H⟩ := H
            refine r_iinc (k := 9) (ls' := [(7, vI (x7 + 1)), (4, vI y17), (9, vI (M 1 1 ((281 + (12 * x6)) + x7))), (8, vI (M 1 1 ((281 + (12 * x5)) + x7))), (0, vR 1 0), (1, vI x1), (2, vI x2), (3, vI x3), (5, vI x5), (6, vI x6)]) rfl c18 (by decide) rfl dX10_areAlike_344 ?_
            refine r_goto (tgt := 222) dX10_areAlike_347 (by decide) ?_
            exact sl_At.sub [4, 5, 6, 7, 1, 8, 9, 0] rfl H
          refine r_if_eq (tgt := 326) gy15 dX10_areAlike_319 (by decide) (fun h16 => ?_) (fun h16 => ?_)
          · refine r_iconst dX10_areAlike_326 ?_
            refine r_goto (tgt := 342) dX10_areAlike_327 (by decide) ?_
            rw [if_neg (show ¬ (¬ (y15 = 0)) by omega)] at J
            exact J
          · refine r_iconst dX10_areAlike_322 ?_
            refine r_goto (tgt := 342) dX10_areAlike_323 (by decide) ?_
            rw [if_pos (show ¬ (y15 = 0) by omega)] at J
            exact J
set_option maxHeartbeats 4000000 in
set_option maxRecDepth 10000 in
theorem vX10_areAlike_350 {l : Launch} {M : sl_M} {Q : sl_R} {x1 x2 x3 x4 x5 x6 : Int} (H : sl_RM M → sl_rg x1 → sl_rg x2 → sl_rg x3 → sl_rg x4 → sl_rg x5 → sl_rg x6 → ((x4 = 0) → (sl_rg (x5 + 1)) ∧ sl_At l mX10_areAlike 30 [(0, vR 1 0), (1, vI x1), (2, vI x2), (3, vI x3), (4, vI 0), (5, vI (x5 + 1))] [] M Q) ∧ ((¬ (x4 = 0)) → (0 ≤ 1 + x5 ∧ 1 + x5 < 990) ∧ ((M 1 1 (1 + x5) ≠ 0) → (sl_rg (x5 + 1)) ∧ sl_At l mX10_areAlike 30 [(0, vR 1 0), (1, vI x1), (2, vI x2), (3, vI x3), (4, vI 1), (5, vI (x5 + 1))] [] M Q) ∧ ((¬ (M 1 1 (1 + x5) ≠ 0)) → (0 ≤ 201 + x5 ∧ 201 + x5 < 990) ∧ (0 ≤ 201 + x6 ∧ 201 + x6 < 990) ∧ sl_RI l mX10_answersTo [vR 1 0, vI (M 1 1 (201 + x5)), vI (M 1 1 (201 + x6))] M (fun y9 M8 => (∀ y11 : Int, y11 = (if ¬ (y9 = 0) then 1 else 0) → (sl_rg (x5 + 1)) ∧ sl_At l mX10_areAlike 30 [(0, vR 1 0), (1, vI x1), (2, vI x2), (3, vI x3), (4, vI y11), (5, vI (x5 + 1))] [] M8 Q))))) : sl_At l mX10_areAlike 350 [(0, vR 1 0), (1, vI x1), (2, vI x2), (3, vI x3), (4, vI x4), (5, vI x5), (6, vI x6)] [] M Q := by
  refine sl_At.in (fun hM hls => ?_)
  have g1 : sl_rg x1 := hls _ (List.mem_of_getElem? (i := 1) rfl)
  have g2 : sl_rg x2 := hls _ (List.mem_of_getElem? (i := 2) rfl)
  have g3 : sl_rg x3 := hls _ (List.mem_of_getElem? (i := 3) rfl)
  have g4 : sl_rg x4 := hls _ (List.mem_of_getElem? (i := 4) rfl)
  have g5 : sl_rg x5 := hls _ (List.mem_of_getElem? (i := 5) rfl)
  have g6 : sl_rg x6 := hls _ (List.mem_of_getElem? (i := 6) rfl)
  have H := H hM g1 g2 g3 g4 g5 g6
  refine r_iload (k := 4) rfl dX10_areAlike_350 ?_
  refine r_if_eq (tgt := 400) g4 dX10_areAlike_352 (by decide) (fun h1 => ?_) (fun h1 => ?_)
  · have H := H.1 h1
    refine r_iconst dX10_areAlike_400 ?_
    refine r_istore (ls' := [(4, vI 0), (0, vR 1 0), (1, vI x1), (2, vI x2), (3, vI x3), (5, vI x5), (6, vI x6)]) ⟨by decide, by decide⟩ (by decide) rfl dX10_areAlike_401 ?_
    obtain ⟨c2, H⟩ := H
    refine r_iinc (k := 5) (ls' := [(5, vI (x5 + 1)), (4, vI 0), (0, vR 1 0), (1, vI x1), (2, vI x2), (3, vI x3), (6, vI x6)]) rfl c2 (by decide) rfl dX10_areAlike_403 ?_
    refine r_goto (tgt := 30) dX10_areAlike_406 (by decide) ?_
    exact sl_At.sub [2, 3, 4, 5, 1, 0] rfl H
  · have H := H.2 h1
    refine r_aload_n (k := 0) rfl rfl dX10_areAlike_355 ?_
    refine r_getR (k := 0) (o' := 1) (i' := 1) ckX10 rfl rfl (by decide) rfl rfl rfl fl_X10_7 dX10_areAlike_356 ?_
    refine r_iconst dX10_areAlike_359 ?_
    refine r_iload (k := 5) rfl dX10_areAlike_360 ?_
    refine r_iadd dX10_areAlike_362 ?_
    obtain ⟨c3, H⟩ := H
    refine r_iald rfl rfl rfl c3 dX10_areAlike_363 ?_
    refine r_if_ne (tgt := 396) (hM _ _ _) dX10_areAlike_364 (by decide) (fun h4 => ?_) (fun h4 => ?_)
    · have H := H.1 h4
      refine r_iconst dX10_areAlike_396 ?_
      refine r_goto (tgt := 401) dX10_areAlike_397 (by decide) ?_
      refine r_istore (ls' := [(4, vI 1), (0, vR 1 0), (1, vI x1), (2, vI x2), (3, vI x3), (5, vI x5), (6, vI x6)]) ⟨by decide, by decide⟩ (by decide) rfl dX10_areAlike_401 ?_
      obtain ⟨c5, H⟩ := H
      refine r_iinc (k := 5) (ls' := [(5, vI (x5 + 1)), (4, vI 1), (0, vR 1 0), (1, vI x1), (2, vI x2), (3, vI x3), (6, vI x6)]) rfl c5 (by decide) rfl dX10_areAlike_403 ?_
      refine r_goto (tgt := 30) dX10_areAlike_406 (by decide) ?_
      exact sl_At.sub [2, 3, 4, 5, 1, 0] rfl H
    · have H := H.2 h4
      refine r_aload_n (k := 0) rfl rfl dX10_areAlike_367 ?_
      refine r_aload_n (k := 0) rfl rfl dX10_areAlike_368 ?_
      refine r_getR (k := 0) (o' := 1) (i' := 1) ckX10 rfl rfl (by decide) rfl rfl rfl fl_X10_7 dX10_areAlike_369 ?_
      refine r_sipush dX10_areAlike_372 (by decide) ?_
      refine r_iload (k := 5) rfl dX10_areAlike_375 ?_
      refine r_iadd dX10_areAlike_377 ?_
      obtain ⟨c6, H⟩ := H
      refine r_iald rfl rfl rfl c6 dX10_areAlike_378 ?_
      refine r_aload_n (k := 0) rfl rfl dX10_areAlike_379 ?_
      refine r_getR (k := 0) (o' := 1) (i' := 1) ckX10 rfl rfl (by decide) rfl rfl rfl fl_X10_7 dX10_areAlike_380 ?_
      refine r_sipush dX10_areAlike_383 (by decide) ?_
      refine r_iload (k := 6) rfl dX10_areAlike_386 ?_
      refine r_iadd dX10_areAlike_388 ?_
      obtain ⟨c7, H⟩ := H
      refine r_iald rfl rfl rfl c7 dX10_areAlike_389 ?_
      refine r_callV (g := mX10_answersTo) ckX10 rfl rfl rfl rfl mkX10_answersTo mvX10_answersTo ml_X10_307 ⟨by decide, by decide⟩ rfl (Nat.le_of_ble_eq_true rfl) rfl (ok_i (hM _ _ _) (ok_i (hM _ _ _) ok_n)) dX10_areAlike_390 (sl_afterI (sl_RI.mono (fun y9 M8 gy9 hM8 H => ?_) H))
      have J : sl_At l mX10_areAlike 401 [(0, vR 1 0), (1, vI x1), (2, vI x2), (3, vI x3), (4, vI x4), (5, vI x5), (6, vI x6)] [vI (if ¬ (y9 = 0) then 1 else 0)] M8 Q := by
        refine r_nm (fun y11 fy11 => ?_)
        have H := H y11 fy11
        have gy11 : sl_rg y11 := by rw [fy11]; exact rg_b
        refine r_istore (ls' := [(4, vI y11), (0, vR 1 0), (1, vI x1), (2, vI x2), (3, vI x3), (5, vI x5), (6, vI x6)]) gy11 (by decide) rfl dX10_areAlike_401 ?_
        obtain ⟨c12, H⟩ := H
        refine r_iinc (k := 5) (ls' := [(5, vI (x5 + 1)), (4, vI y11), (0, vR 1 0), (1, vI x1), (2, vI x2), (3, vI x3), (6, vI x6)]) rfl c12 (by decide) rfl dX10_areAlike_403 ?_
        refine r_goto (tgt := 30) dX10_areAlike_406 (by decide) ?_
        exact sl_At.sub [2, 3, 4, 5, 1, 0] rfl H
      refine r_if_eq (tgt := 400) gy9 dX10_areAlike_393 (by decide) (fun h10 => ?_) (fun h10 => ?_)
      · refine r_iconst dX10_areAlike_400 ?_
        rw [if_neg (show ¬ (¬ (y9 = 0)) by omega)] at J
        exact J
      · refine r_iconst dX10_areAlike_396 ?_
        refine r_goto (tgt := 401) dX10_areAlike_397 (by decide) ?_
        rw [if_pos (show ¬ (y9 = 0) by omega)] at J
        exact J
theorem eX10_areAlike {l : Launch} {M : sl_M} {Q : sl_R} {x1 x2 x3 : Int} (k : sl_At l mX10_areAlike 0 [(0, vR 1 0), (1, vI x1), (2, vI x2), (3, vI x3)] [] M Q) : sl_Runs l mX10_areAlike [vR 1 0, vI x1, vI x2, vI x3] M Q := sl_Runs.of (ls := [(0, vR 1 0), (1, vI x1), (2, vI x2), (3, vI x3)]) rfl rfl (fun _ => rfl) (fun _ => Nat.le_of_ble_eq_true rfl) rfl (k)
theorem dX10_answered_0 : decode cX10_answered 0 = .ok (.iconst 0, 1) := by decide +kernel
theorem dX10_answered_1 : decode cX10_answered 1 = .ok (.istore_n 2, 1) := by decide +kernel
theorem dX10_answered_2 : decode cX10_answered 2 = .ok (.iconst 0, 1) := by decide +kernel
theorem dX10_answered_3 : decode cX10_answered 3 = .ok (.istore_n 3, 1) := by decide +kernel
theorem dX10_answered_4 : decode cX10_answered 4 = .ok (.iload_n 3, 1) := by decide +kernel
theorem dX10_answered_5 : decode cX10_answered 5 = .ok (.bipush 8, 2) := by decide +kernel
theorem dX10_answered_7 : decode cX10_answered 7 = .ok (.if_icmp .ge 42, 3) := by decide +kernel
theorem dX10_answered_10 : decode cX10_answered 10 = .ok (.iload_n 2, 1) := by decide +kernel
theorem dX10_answered_11 : decode cX10_answered 11 = .ok (.iload_n 1, 1) := by decide +kernel
theorem dX10_answered_12 : decode cX10_answered 12 = .ok (.iload_n 3, 1) := by decide +kernel
theorem dX10_answered_13 : decode cX10_answered 13 = .ok (.invokestatic 218, 3) := by decide +kernel
theorem dX10_answered_16 : decode cX10_answered 16 = .ok (.ifCond .eq 24, 3) := by decide +kernel
theorem dX10_answered_19 : decode cX10_answered 19 = .ok (.aload_n 0, 1) := by decide +kernel
theorem dX10_answered_20 : decode cX10_answered 20 = .ok (.getfield 98, 3) := by decide +kernel
theorem dX10_answered_23 : decode cX10_answered 23 = .ok (.iload_n 3, 1) := by decide +kernel
theorem dX10_answered_24 : decode cX10_answered 24 = .ok (.iaload, 1) := by decide +kernel
theorem dX10_answered_25 : decode cX10_answered 25 = .ok (.iconst (-1), 1) := by decide +kernel
theorem dX10_answered_26 : decode cX10_answered 26 = .ok (.if_icmp .eq 14, 3) := by decide +kernel
theorem dX10_answered_29 : decode cX10_answered 29 = .ok (.iconst 1, 1) := by decide +kernel
theorem dX10_answered_30 : decode cX10_answered 30 = .ok (.aload_n 0, 1) := by decide +kernel
theorem dX10_answered_31 : decode cX10_answered 31 = .ok (.getfield 98, 3) := by decide +kernel
theorem dX10_answered_34 : decode cX10_answered 34 = .ok (.iload_n 3, 1) := by decide +kernel
theorem dX10_answered_35 : decode cX10_answered 35 = .ok (.iaload, 1) := by decide +kernel
theorem dX10_answered_36 : decode cX10_answered 36 = .ok (.ishl, 1) := by decide +kernel
theorem dX10_answered_37 : decode cX10_answered 37 = .ok (.goto 4, 3) := by decide +kernel
theorem dX10_answered_40 : decode cX10_answered 40 = .ok (.iconst 0, 1) := by decide +kernel
theorem dX10_answered_41 : decode cX10_answered 41 = .ok (.ior, 1) := by decide +kernel
theorem dX10_answered_42 : decode cX10_answered 42 = .ok (.istore_n 2, 1) := by decide +kernel
theorem dX10_answered_43 : decode cX10_answered 43 = .ok (.iinc 3 1, 3) := by decide +kernel
theorem dX10_answered_46 : decode cX10_answered 46 = .ok (.goto (-42), 3) := by decide +kernel
theorem dX10_answered_49 : decode cX10_answered 49 = .ok (.iload_n 2, 1) := by decide +kernel
theorem dX10_answered_50 : decode cX10_answered 50 = .ok (.ireturn, 1) := by decide +kernel
set_option maxHeartbeats 4000000 in
set_option maxRecDepth 10000 in
theorem vX10_answered_0 {l : Launch} {M : sl_M} {Q : sl_R} {x1 : Int} (H : sl_RM M → sl_rg x1 → sl_At l mX10_answered 4 [(0, vR 1 0), (1, vI x1), (2, vI 0), (3, vI 0)] [] M Q) : sl_At l mX10_answered 0 [(0, vR 1 0), (1, vI x1)] [] M Q := by
  refine sl_At.in (fun hM hls => ?_)
  have g1 : sl_rg x1 := hls _ (List.mem_of_getElem? (i := 1) rfl)
  have H := H hM g1
  refine r_iconst dX10_answered_0 ?_
  refine r_istore_n (ls' := [(2, vI 0), (0, vR 1 0), (1, vI x1)]) ⟨by decide, by decide⟩ rfl (by decide) rfl dX10_answered_1 ?_
  refine r_iconst dX10_answered_2 ?_
  refine r_istore_n (ls' := [(3, vI 0), (2, vI 0), (0, vR 1 0), (1, vI x1)]) ⟨by decide, by decide⟩ rfl (by decide) rfl dX10_answered_3 ?_
  exact sl_At.sub [2, 3, 1, 0] rfl H
set_option maxHeartbeats 4000000 in
set_option maxRecDepth 10000 in
theorem vX10_answered_4 {l : Launch} {M : sl_M} {Q : sl_R} {x1 x2 x3 : Int} (H : sl_RM M → sl_rg x1 → sl_rg x2 → sl_rg x3 → ((8 ≤ x3) → Q (some (vI x2)) M) ∧ ((¬ (8 ≤ x3)) → (((iand (ishr x1 x3) 1 = 1) → (0 ≤ x3 ∧ x3 < 8))) ∧ (∀ y5 : Int, y5 = ior x2 (if ¬ (iand (ishr x1 x3) 1 = 1) then 0 else (if M 1 50 x3 = (-1) then 0 else ishl 1 (M 1 50 x3))) → (sl_rg (x3 + 1)) ∧ sl_At l mX10_answered 4 [(0, vR 1 0), (1, vI x1), (2, vI y5), (3, vI (x3 + 1))] [] M Q))) : sl_At l mX10_answered 4 [(0, vR 1 0), (1, vI x1), (2, vI x2), (3, vI x3)] [] M Q := by
  refine sl_At.in (fun hM hls => ?_)
  have g1 : sl_rg x1 := hls _ (List.mem_of_getElem? (i := 1) rfl)
  have g2 : sl_rg x2 := hls _ (List.mem_of_getElem? (i := 2) rfl)
  have g3 : sl_rg x3 := hls _ (List.mem_of_getElem? (i := 3) rfl)
  have H := H hM g1 g2 g3
  refine r_iload_n (k := 3) rfl rfl dX10_answered_4 ?_
  refine r_bipush dX10_answered_5 (by decide) ?_
  refine r_icmp_ge (tgt := 49) g3 ⟨by decide, by decide⟩ dX10_answered_7 (by decide) (fun h1 => ?_) (fun h1 => ?_)
  · have H := H.1 h1
    refine r_iload_n (k := 2) rfl rfl dX10_answered_49 ?_
    refine r_iret rfl g2 dX10_answered_50 ?_
    exact H
  · have H := H.2 h1
    refine r_iload_n (k := 2) rfl rfl dX10_answered_10 ?_
    refine r_iload_n (k := 1) rfl rfl dX10_answered_11 ?_
    refine r_iload_n (k := 3) rfl rfl dX10_answered_12 ?_
    refine r_callS (g := mX10_has) rfl mkX10_has msX10_has ml_X10_218 ⟨by decide, by decide⟩ rfl (Nat.le_of_ble_eq_true rfl) rfl (ok_i g1 (ok_i g3 ok_n)) dX10_answered_13 (sl_afterI (sl_RI.by kX10_has ?_))
    obtain ⟨K, H⟩ := H
    have J : sl_At l mX10_answered 41 [(0, vR 1 0), (1, vI x1), (2, vI x2), (3, vI x3)] [vI (if ¬ (iand (ishr x1 x3) 1 = 1) then 0 else (if M 1 50 x3 = (-1) then 0 else ishl 1 (M 1 50 x3))), vI x2] M Q := by
      refine r_ior dX10_answered_41 ?_
      refine r_nm (fun y5 fy5 => ?_)
      have H := H y5 fy5
      have gy5 : sl_rg y5 := by rw [fy5]; exact (rg_ior _ _)
      refine r_istore_n (ls' := [(2, vI y5), (0, vR 1 0), (1, vI x1), (3, vI x3)]) gy5 rfl (by decide) rfl dX10_answered_42 ?_
      obtain ⟨c6, H⟩ := H
      refine r_iinc (k := 3) (ls' := [(3, vI (x3 + 1)), (2, vI y5), (0, vR 1 0), (1, vI x1)]) rfl c6 (by decide) rfl dX10_answered_43 ?_
      refine r_goto (tgt := 4) dX10_answered_46 (by decide) ?_
      exact sl_At.sub [2, 3, 1, 0] rfl H
    refine r_if_eq (tgt := 40) rg_b dX10_answered_16 (by decide) (fun h3 => ?_) (fun h3 => ?_)
    · replace h3 := (b_eq0.mp h3)
      refine r_iconst dX10_answered_40 ?_
      rw [if_pos h3] at J
      exact J
    · replace h3 := (b_ne0.mp h3)
      replace K := K h3
      have c2 := K
      refine r_aload_n (k := 0) rfl rfl dX10_answered_19 ?_
      refine r_getR (k := 49) (o' := 1) (i' := 50) ckX10 rfl rfl (by decide) rfl rfl rfl fl_X10_98 dX10_answered_20 ?_
      refine r_iload_n (k := 3) rfl rfl dX10_answered_23 ?_
      refine r_iald rfl rfl rfl c2 dX10_answered_24 ?_
      refine r_iconst dX10_answered_25 ?_
      refine r_icmp_eq (tgt := 40) (hM _ _ _) ⟨by decide, by decide⟩ dX10_answered_26 (by decide) (fun h4 => ?_) (fun h4 => ?_)
      · refine r_iconst dX10_answered_40 ?_
        rw [if_neg (fun q => q h3), if_pos h4] at J
        exact J
      · refine r_iconst dX10_answered_29 ?_
        refine r_aload_n (k := 0) rfl rfl dX10_answered_30 ?_
        refine r_getR (k := 49) (o' := 1) (i' := 50) ckX10 rfl rfl (by decide) rfl rfl rfl fl_X10_98 dX10_answered_31 ?_
        refine r_iload_n (k := 3) rfl rfl dX10_answered_34 ?_
        refine r_iald rfl rfl rfl c2 dX10_answered_35 ?_
        refine r_ishl dX10_answered_36 ?_
        refine r_goto (tgt := 41) dX10_answered_37 (by decide) ?_
        rw [if_neg (fun q => q h3), if_neg h4] at J
        exact J
theorem eX10_answered {l : Launch} {M : sl_M} {Q : sl_R} {x1 : Int} (k : sl_At l mX10_answered 0 [(0, vR 1 0), (1, vI x1)] [] M Q) : sl_Runs l mX10_answered [vR 1 0, vI x1] M Q := sl_Runs.of (ls := [(0, vR 1 0), (1, vI x1)]) rfl rfl (fun _ => rfl) (fun _ => Nat.le_of_ble_eq_true rfl) rfl (k)
theorem dX10_hasCall_0 : decode cX10_hasCall 0 = .ok (.iconst 0, 1) := by decide +kernel
theorem dX10_hasCall_1 : decode cX10_hasCall 1 = .ok (.istore_n 3, 1) := by decide +kernel
theorem dX10_hasCall_2 : decode cX10_hasCall 2 = .ok (.iload_n 1, 1) := by decide +kernel
theorem dX10_hasCall_3 : decode cX10_hasCall 3 = .ok (.istore 4, 2) := by decide +kernel
theorem dX10_hasCall_5 : decode cX10_hasCall 5 = .ok (.iload 4, 2) := by decide +kernel
theorem dX10_hasCall_7 : decode cX10_hasCall 7 = .ok (.iload_n 2, 1) := by decide +kernel
theorem dX10_hasCall_8 : decode cX10_hasCall 8 = .ok (.if_icmp .ge 31, 3) := by decide +kernel
theorem dX10_hasCall_11 : decode cX10_hasCall 11 = .ok (.iload_n 3, 1) := by decide +kernel
theorem dX10_hasCall_12 : decode cX10_hasCall 12 = .ok (.ifCond .ne 15, 3) := by decide +kernel
theorem dX10_hasCall_15 : decode cX10_hasCall 15 = .ok (.aload_n 0, 1) := by decide +kernel
theorem dX10_hasCall_16 : decode cX10_hasCall 16 = .ok (.getfield 31, 3) := by decide +kernel
theorem dX10_hasCall_19 : decode cX10_hasCall 19 = .ok (.iload 4, 2) := by decide +kernel
theorem dX10_hasCall_21 : decode cX10_hasCall 21 = .ok (.iaload, 1) := by decide +kernel
theorem dX10_hasCall_22 : decode cX10_hasCall 22 = .ok (.bipush 7, 2) := by decide +kernel
theorem dX10_hasCall_24 : decode cX10_hasCall 24 = .ok (.if_icmp .ne 7, 3) := by decide +kernel
theorem dX10_hasCall_27 : decode cX10_hasCall 27 = .ok (.iconst 1, 1) := by decide +kernel
theorem dX10_hasCall_28 : decode cX10_hasCall 28 = .ok (.goto 4, 3) := by decide +kernel
theorem dX10_hasCall_31 : decode cX10_hasCall 31 = .ok (.iconst 0, 1) := by decide +kernel
theorem dX10_hasCall_32 : decode cX10_hasCall 32 = .ok (.istore_n 3, 1) := by decide +kernel
theorem dX10_hasCall_33 : decode cX10_hasCall 33 = .ok (.iinc 4 1, 3) := by decide +kernel
theorem dX10_hasCall_36 : decode cX10_hasCall 36 = .ok (.goto (-31), 3) := by decide +kernel
theorem dX10_hasCall_39 : decode cX10_hasCall 39 = .ok (.iload_n 3, 1) := by decide +kernel
theorem dX10_hasCall_40 : decode cX10_hasCall 40 = .ok (.ireturn, 1) := by decide +kernel
set_option maxHeartbeats 4000000 in
set_option maxRecDepth 10000 in
theorem vX10_hasCall_0 {l : Launch} {M : sl_M} {Q : sl_R} {x1 x2 : Int} (H : sl_RM M → sl_rg x1 → sl_rg x2 → sl_At l mX10_hasCall 5 [(0, vR 1 0), (2, vI x2), (3, vI 0), (4, vI x1)] [] M Q) : sl_At l mX10_hasCall 0 [(0, vR 1 0), (1, vI x1), (2, vI x2)] [] M Q := by
  refine sl_At.in (fun hM hls => ?_)
  have g1 : sl_rg x1 := hls _ (List.mem_of_getElem? (i := 1) rfl)
  have g2 : sl_rg x2 := hls _ (List.mem_of_getElem? (i := 2) rfl)
  have H := H hM g1 g2
  refine r_iconst dX10_hasCall_0 ?_
  refine r_istore_n (ls' := [(3, vI 0), (0, vR 1 0), (1, vI x1), (2, vI x2)]) ⟨by decide, by decide⟩ rfl (by decide) rfl dX10_hasCall_1 ?_
  refine r_iload_n (k := 2) rfl rfl dX10_hasCall_2 ?_
  refine r_istore (ls' := [(4, vI x1), (3, vI 0), (0, vR 1 0), (1, vI x1), (2, vI x2)]) g1 (by decide) rfl dX10_hasCall_3 ?_
  exact sl_At.sub [2, 4, 1, 0] rfl H
set_option maxHeartbeats 4000000 in
set_option maxRecDepth 10000 in
theorem vX10_hasCall_5 {l : Launch} {M : sl_M} {Q : sl_R} {x2 x3 x4 : Int} (H : sl_RM M → sl_rg x2 → sl_rg x3 → sl_rg x4 → ((x2 ≤ x4) → (x3 = 0 ∨ x3 = 1) ∧ Q (some (vI x3)) M) ∧ ((¬ (x2 ≤ x4)) → (((¬ (x3 ≠ 0)) → (0 ≤ x4 ∧ x4 < 82))) ∧ (∀ y6 : Int, y6 = (if (x3 ≠ 0) ∨ (¬ (M 1 17 x4 ≠ 7)) then 1 else 0) → (sl_rg (x4 + 1)) ∧ sl_At l mX10_hasCall 5 [(0, vR 1 0), (2, vI x2), (3, vI y6), (4, vI (x4 + 1))] [] M Q))) : sl_At l mX10_hasCall 5 [(0, vR 1 0), (2, vI x2), (3, vI x3), (4, vI x4)] [] M Q := by
  refine sl_At.in (fun hM hls => ?_)
  have g2 : sl_rg x2 := hls _ (List.mem_of_getElem? (i := 1) rfl)
  have g3 : sl_rg x3 := hls _ (List.mem_of_getElem? (i := 2) rfl)
  have g4 : sl_rg x4 := hls _ (List.mem_of_getElem? (i := 3) rfl)
  have H := H hM g2 g3 g4
  refine r_iload (k := 3) rfl dX10_hasCall_5 ?_
  refine r_iload_n (k := 1) rfl rfl dX10_hasCall_7 ?_
  refine r_icmp_ge (tgt := 39) g4 g2 dX10_hasCall_8 (by decide) (fun h1 => ?_) (fun h1 => ?_)
  · have H := H.1 h1
    refine r_iload_n (k := 2) rfl rfl dX10_hasCall_39 ?_
    obtain ⟨c2, H⟩ := H
    refine r_zret rfl c2 dX10_hasCall_40 ?_
    exact H
  · have H := H.2 h1
    refine r_iload_n (k := 2) rfl rfl dX10_hasCall_11 ?_
    obtain ⟨K, H⟩ := H
    have J : sl_At l mX10_hasCall 32 [(0, vR 1 0), (2, vI x2), (3, vI x3), (4, vI x4)] [vI (if (x3 ≠ 0) ∨ (¬ (M 1 17 x4 ≠ 7)) then 1 else 0)] M Q := by
      refine r_nm (fun y6 fy6 => ?_)
      have H := H y6 fy6
      have gy6 : sl_rg y6 := by rw [fy6]; exact rg_b
      refine r_istore_n (ls' := [(3, vI y6), (0, vR 1 0), (2, vI x2), (4, vI x4)]) gy6 rfl (by decide) rfl dX10_hasCall_32 ?_
      obtain ⟨c7, H⟩ := H
      refine r_iinc (k := 3) (ls' := [(4, vI (x4 + 1)), (3, vI y6), (0, vR 1 0), (2, vI x2)]) rfl c7 (by decide) rfl dX10_hasCall_33 ?_
      refine r_goto (tgt := 5) dX10_hasCall_36 (by decide) ?_
      exact sl_At.sub [2, 3, 1, 0] rfl H
    refine r_if_ne (tgt := 27) g3 dX10_hasCall_12 (by decide) (fun h4 => ?_) (fun h4 => ?_)
    · refine r_iconst dX10_hasCall_27 ?_
      refine r_goto (tgt := 32) dX10_hasCall_28 (by decide) ?_
      rw [if_pos (show (x3 ≠ 0) ∨ (¬ (M 1 17 x4 ≠ 7)) by omega)] at J
      exact J
    · replace K := K h4
      have c3 := K
      refine r_aload_n (k := 0) rfl rfl dX10_hasCall_15 ?_
      refine r_getR (k := 16) (o' := 1) (i' := 17) ckX10 rfl rfl (by decide) rfl rfl rfl fl_X10_31 dX10_hasCall_16 ?_
      refine r_iload (k := 3) rfl dX10_hasCall_19 ?_
      refine r_iald rfl rfl rfl c3 dX10_hasCall_21 ?_
      refine r_bipush dX10_hasCall_22 (by decide) ?_
      refine r_icmp_ne (tgt := 31) (hM _ _ _) ⟨by decide, by decide⟩ dX10_hasCall_24 (by decide) (fun h5 => ?_) (fun h5 => ?_)
      · refine r_iconst dX10_hasCall_31 ?_
        rw [if_neg (show ¬ ((x3 ≠ 0) ∨ (¬ (M 1 17 x4 ≠ 7))) by omega)] at J
        exact J
      · refine r_iconst dX10_hasCall_27 ?_
        refine r_goto (tgt := 32) dX10_hasCall_28 (by decide) ?_
        rw [if_pos (show (x3 ≠ 0) ∨ (¬ (M 1 17 x4 ≠ 7)) by omega)] at J
        exact J
theorem eX10_hasCall {l : Launch} {M : sl_M} {Q : sl_R} {x1 x2 : Int} (k : sl_At l mX10_hasCall 0 [(0, vR 1 0), (1, vI x1), (2, vI x2)] [] M Q) : sl_Runs l mX10_hasCall [vR 1 0, vI x1, vI x2] M Q := sl_Runs.of (ls := [(0, vR 1 0), (1, vI x1), (2, vI x2)]) rfl rfl (fun _ => rfl) (fun _ => Nat.le_of_ble_eq_true rfl) rfl (k)
theorem dX10_laysAlike_0 : decode cX10_laysAlike 0 = .ok (.aload_n 0, 1) := by decide +kernel
theorem dX10_laysAlike_1 : decode cX10_laysAlike 1 = .ok (.iconst 0, 1) := by decide +kernel
theorem dX10_laysAlike_2 : decode cX10_laysAlike 2 = .ok (.putfield 310, 3) := by decide +kernel
theorem dX10_laysAlike_5 : decode cX10_laysAlike 5 = .ok (.aload_n 0, 1) := by decide +kernel
theorem dX10_laysAlike_6 : decode cX10_laysAlike 6 = .ok (.iload_n 1, 1) := by decide +kernel
theorem dX10_laysAlike_7 : decode cX10_laysAlike 7 = .ok (.iload_n 2, 1) := by decide +kernel
theorem dX10_laysAlike_8 : decode cX10_laysAlike 8 = .ok (.invokevirtual 313, 3) := by decide +kernel
theorem dX10_laysAlike_11 : decode cX10_laysAlike 11 = .ok (.istore_n 3, 1) := by decide +kernel
theorem dX10_laysAlike_12 : decode cX10_laysAlike 12 = .ok (.iconst 0, 1) := by decide +kernel
theorem dX10_laysAlike_13 : decode cX10_laysAlike 13 = .ok (.istore 4, 2) := by decide +kernel
theorem dX10_laysAlike_15 : decode cX10_laysAlike 15 = .ok (.iload 4, 2) := by decide +kernel
theorem dX10_laysAlike_17 : decode cX10_laysAlike 17 = .ok (.aload_n 0, 1) := by decide +kernel
theorem dX10_laysAlike_18 : decode cX10_laysAlike 18 = .ok (.iconst 0, 1) := by decide +kernel
theorem dX10_laysAlike_19 : decode cX10_laysAlike 19 = .ok (.invokevirtual 201, 3) := by decide +kernel
theorem dX10_laysAlike_22 : decode cX10_laysAlike 22 = .ok (.if_icmp .ge 390, 3) := by decide +kernel
theorem dX10_laysAlike_25 : decode cX10_laysAlike 25 = .ok (.aload_n 0, 1) := by decide +kernel
theorem dX10_laysAlike_26 : decode cX10_laysAlike 26 = .ok (.iload 4, 2) := by decide +kernel
theorem dX10_laysAlike_28 : decode cX10_laysAlike 28 = .ok (.iload_n 3, 1) := by decide +kernel
theorem dX10_laysAlike_29 : decode cX10_laysAlike 29 = .ok (.invokevirtual 316, 3) := by decide +kernel
theorem dX10_laysAlike_32 : decode cX10_laysAlike 32 = .ok (.istore 5, 2) := by decide +kernel
theorem dX10_laysAlike_34 : decode cX10_laysAlike 34 = .ok (.iload 5, 2) := by decide +kernel
theorem dX10_laysAlike_36 : decode cX10_laysAlike 36 = .ok (.iconst (-1), 1) := by decide +kernel
theorem dX10_laysAlike_37 : decode cX10_laysAlike 37 = .ok (.if_icmp .eq 59, 3) := by decide +kernel
theorem dX10_laysAlike_40 : decode cX10_laysAlike 40 = .ok (.aload_n 0, 1) := by decide +kernel
theorem dX10_laysAlike_41 : decode cX10_laysAlike 41 = .ok (.iload_n 1, 1) := by decide +kernel
theorem dX10_laysAlike_42 : decode cX10_laysAlike 42 = .ok (.aload_n 0, 1) := by decide +kernel
theorem dX10_laysAlike_43 : decode cX10_laysAlike 43 = .ok (.getfield 40, 3) := by decide +kernel
theorem dX10_laysAlike_46 : decode cX10_laysAlike 46 = .ok (.iload_n 2, 1) := by decide +kernel
theorem dX10_laysAlike_47 : decode cX10_laysAlike 47 = .ok (.iaload, 1) := by decide +kernel
theorem dX10_laysAlike_48 : decode cX10_laysAlike 48 = .ok (.invokevirtual 319, 3) := by decide +kernel
theorem dX10_laysAlike_51 : decode cX10_laysAlike 51 = .ok (.ifCond .ne 45, 3) := by decide +kernel
theorem dX10_laysAlike_54 : decode cX10_laysAlike 54 = .ok (.aload_n 0, 1) := by decide +kernel
theorem dX10_laysAlike_55 : decode cX10_laysAlike 55 = .ok (.iload 4, 2) := by decide +kernel
theorem dX10_laysAlike_57 : decode cX10_laysAlike 57 = .ok (.aload_n 0, 1) := by decide +kernel
theorem dX10_laysAlike_58 : decode cX10_laysAlike 58 = .ok (.getfield 40, 3) := by decide +kernel
theorem dX10_laysAlike_61 : decode cX10_laysAlike 61 = .ok (.iload 5, 2) := by decide +kernel
theorem dX10_laysAlike_63 : decode cX10_laysAlike 63 = .ok (.iaload, 1) := by decide +kernel
theorem dX10_laysAlike_64 : decode cX10_laysAlike 64 = .ok (.invokevirtual 319, 3) := by decide +kernel
theorem dX10_laysAlike_67 : decode cX10_laysAlike 67 = .ok (.ifCond .ne 29, 3) := by decide +kernel
theorem dX10_laysAlike_70 : decode cX10_laysAlike 70 = .ok (.aload_n 0, 1) := by decide +kernel
theorem dX10_laysAlike_71 : decode cX10_laysAlike 71 = .ok (.getfield 40, 3) := by decide +kernel
theorem dX10_laysAlike_74 : decode cX10_laysAlike 74 = .ok (.iload 5, 2) := by decide +kernel
theorem dX10_laysAlike_76 : decode cX10_laysAlike 76 = .ok (.iaload, 1) := by decide +kernel
theorem dX10_laysAlike_77 : decode cX10_laysAlike 77 = .ok (.iload_n 1, 1) := by decide +kernel
theorem dX10_laysAlike_78 : decode cX10_laysAlike 78 = .ok (.if_icmp .le 14, 3) := by decide +kernel
theorem dX10_laysAlike_81 : decode cX10_laysAlike 81 = .ok (.iload 4, 2) := by decide +kernel
theorem dX10_laysAlike_83 : decode cX10_laysAlike 83 = .ok (.aload_n 0, 1) := by decide +kernel
theorem dX10_laysAlike_84 : decode cX10_laysAlike 84 = .ok (.getfield 40, 3) := by decide +kernel
theorem dX10_laysAlike_87 : decode cX10_laysAlike 87 = .ok (.iload_n 2, 1) := by decide +kernel
theorem dX10_laysAlike_88 : decode cX10_laysAlike 88 = .ok (.iaload, 1) := by decide +kernel
theorem dX10_laysAlike_89 : decode cX10_laysAlike 89 = .ok (.if_icmp .lt 7, 3) := by decide +kernel
theorem dX10_laysAlike_92 : decode cX10_laysAlike 92 = .ok (.iconst 1, 1) := by decide +kernel
theorem dX10_laysAlike_93 : decode cX10_laysAlike 93 = .ok (.goto 4, 3) := by decide +kernel
theorem dX10_laysAlike_96 : decode cX10_laysAlike 96 = .ok (.iconst 0, 1) := by decide +kernel
theorem dX10_laysAlike_97 : decode cX10_laysAlike 97 = .ok (.istore 6, 2) := by decide +kernel
theorem dX10_laysAlike_99 : decode cX10_laysAlike 99 = .ok (.iconst 0, 1) := by decide +kernel
theorem dX10_laysAlike_100 : decode cX10_laysAlike 100 = .ok (.istore 7, 2) := by decide +kernel
theorem dX10_laysAlike_102 : decode cX10_laysAlike 102 = .ok (.iload 7, 2) := by decide +kernel
theorem dX10_laysAlike_104 : decode cX10_laysAlike 104 = .ok (.aload_n 0, 1) := by decide +kernel
theorem dX10_laysAlike_105 : decode cX10_laysAlike 105 = .ok (.getfield 310, 3) := by decide +kernel
theorem dX10_laysAlike_108 : decode cX10_laysAlike 108 = .ok (.if_icmp .ge 61, 3) := by decide +kernel
theorem dX10_laysAlike_111 : decode cX10_laysAlike 111 = .ok (.iload 6, 2) := by decide +kernel
theorem dX10_laysAlike_113 : decode cX10_laysAlike 113 = .ok (.ifCond .eq 47, 3) := by decide +kernel
theorem dX10_laysAlike_116 : decode cX10_laysAlike 116 = .ok (.aload_n 0, 1) := by decide +kernel
theorem dX10_laysAlike_117 : decode cX10_laysAlike 117 = .ok (.getfield 40, 3) := by decide +kernel
theorem dX10_laysAlike_120 : decode cX10_laysAlike 120 = .ok (.iload 5, 2) := by decide +kernel
theorem dX10_laysAlike_122 : decode cX10_laysAlike 122 = .ok (.iconst (-1), 1) := by decide +kernel
theorem dX10_laysAlike_123 : decode cX10_laysAlike 123 = .ok (.if_icmp .ne 8, 3) := by decide +kernel
theorem dX10_laysAlike_126 : decode cX10_laysAlike 126 = .ok (.iload 4, 2) := by decide +kernel
theorem dX10_laysAlike_128 : decode cX10_laysAlike 128 = .ok (.goto 5, 3) := by decide +kernel
theorem dX10_laysAlike_131 : decode cX10_laysAlike 131 = .ok (.iload 5, 2) := by decide +kernel
theorem dX10_laysAlike_133 : decode cX10_laysAlike 133 = .ok (.iaload, 1) := by decide +kernel
theorem dX10_laysAlike_134 : decode cX10_laysAlike 134 = .ok (.aload_n 0, 1) := by decide +kernel
theorem dX10_laysAlike_135 : decode cX10_laysAlike 135 = .ok (.getfield 89, 3) := by decide +kernel
theorem dX10_laysAlike_138 : decode cX10_laysAlike 138 = .ok (.iload 7, 2) := by decide +kernel
theorem dX10_laysAlike_140 : decode cX10_laysAlike 140 = .ok (.iaload, 1) := by decide +kernel
theorem dX10_laysAlike_141 : decode cX10_laysAlike 141 = .ok (.if_icmp .le 15, 3) := by decide +kernel
theorem dX10_laysAlike_144 : decode cX10_laysAlike 144 = .ok (.iload 4, 2) := by decide +kernel
theorem dX10_laysAlike_146 : decode cX10_laysAlike 146 = .ok (.aload_n 0, 1) := by decide +kernel
theorem dX10_laysAlike_147 : decode cX10_laysAlike 147 = .ok (.getfield 92, 3) := by decide +kernel
theorem dX10_laysAlike_150 : decode cX10_laysAlike 150 = .ok (.iload 7, 2) := by decide +kernel
theorem dX10_laysAlike_152 : decode cX10_laysAlike 152 = .ok (.iaload, 1) := by decide +kernel
theorem dX10_laysAlike_153 : decode cX10_laysAlike 153 = .ok (.if_icmp .le 7, 3) := by decide +kernel
theorem dX10_laysAlike_156 : decode cX10_laysAlike 156 = .ok (.iconst 1, 1) := by decide +kernel
theorem dX10_laysAlike_157 : decode cX10_laysAlike 157 = .ok (.goto 4, 3) := by decide +kernel
theorem dX10_laysAlike_160 : decode cX10_laysAlike 160 = .ok (.iconst 0, 1) := by decide +kernel
theorem dX10_laysAlike_161 : decode cX10_laysAlike 161 = .ok (.istore 6, 2) := by decide +kernel
theorem dX10_laysAlike_163 : decode cX10_laysAlike 163 = .ok (.iinc 7 1, 3) := by decide +kernel
theorem dX10_laysAlike_166 : decode cX10_laysAlike 166 = .ok (.goto (-64), 3) := by decide +kernel
theorem dX10_laysAlike_169 : decode cX10_laysAlike 169 = .ok (.iload 6, 2) := by decide +kernel
theorem dX10_laysAlike_171 : decode cX10_laysAlike 171 = .ok (.ifCond .eq 235, 3) := by decide +kernel
theorem dX10_laysAlike_174 : decode cX10_laysAlike 174 = .ok (.aload_n 0, 1) := by decide +kernel
theorem dX10_laysAlike_175 : decode cX10_laysAlike 175 = .ok (.getfield 7, 3) := by decide +kernel
theorem dX10_laysAlike_178 : decode cX10_laysAlike 178 = .ok (.bipush 41, 2) := by decide +kernel
theorem dX10_laysAlike_180 : decode cX10_laysAlike 180 = .ok (.aload_n 0, 1) := by decide +kernel
theorem dX10_laysAlike_181 : decode cX10_laysAlike 181 = .ok (.getfield 43, 3) := by decide +kernel
theorem dX10_laysAlike_184 : decode cX10_laysAlike 184 = .ok (.iload 5, 2) := by decide +kernel
theorem dX10_laysAlike_186 : decode cX10_laysAlike 186 = .ok (.iaload, 1) := by decide +kernel
theorem dX10_laysAlike_187 : decode cX10_laysAlike 187 = .ok (.iadd, 1) := by decide +kernel
theorem dX10_laysAlike_188 : decode cX10_laysAlike 188 = .ok (.iaload, 1) := by decide +kernel
theorem dX10_laysAlike_189 : decode cX10_laysAlike 189 = .ok (.aload_n 0, 1) := by decide +kernel
theorem dX10_laysAlike_190 : decode cX10_laysAlike 190 = .ok (.getfield 43, 3) := by decide +kernel
theorem dX10_laysAlike_193 : decode cX10_laysAlike 193 = .ok (.iload 4, 2) := by decide +kernel
theorem dX10_laysAlike_195 : decode cX10_laysAlike 195 = .ok (.iaload, 1) := by decide +kernel
theorem dX10_laysAlike_196 : decode cX10_laysAlike 196 = .ok (.isub, 1) := by decide +kernel
theorem dX10_laysAlike_197 : decode cX10_laysAlike 197 = .ok (.aload_n 0, 1) := by decide +kernel
theorem dX10_laysAlike_198 : decode cX10_laysAlike 198 = .ok (.getfield 7, 3) := by decide +kernel
theorem dX10_laysAlike_201 : decode cX10_laysAlike 201 = .ok (.bipush 41, 2) := by decide +kernel
theorem dX10_laysAlike_203 : decode cX10_laysAlike 203 = .ok (.aload_n 0, 1) := by decide +kernel
theorem dX10_laysAlike_204 : decode cX10_laysAlike 204 = .ok (.getfield 43, 3) := by decide +kernel
theorem dX10_laysAlike_207 : decode cX10_laysAlike 207 = .ok (.iload_n 2, 1) := by decide +kernel
theorem dX10_laysAlike_208 : decode cX10_laysAlike 208 = .ok (.iaload, 1) := by decide +kernel
theorem dX10_laysAlike_209 : decode cX10_laysAlike 209 = .ok (.iadd, 1) := by decide +kernel
theorem dX10_laysAlike_210 : decode cX10_laysAlike 210 = .ok (.iaload, 1) := by decide +kernel
theorem dX10_laysAlike_211 : decode cX10_laysAlike 211 = .ok (.aload_n 0, 1) := by decide +kernel
theorem dX10_laysAlike_212 : decode cX10_laysAlike 212 = .ok (.getfield 43, 3) := by decide +kernel
theorem dX10_laysAlike_215 : decode cX10_laysAlike 215 = .ok (.iload_n 1, 1) := by decide +kernel
theorem dX10_laysAlike_216 : decode cX10_laysAlike 216 = .ok (.iaload, 1) := by decide +kernel
theorem dX10_laysAlike_217 : decode cX10_laysAlike 217 = .ok (.isub, 1) := by decide +kernel
theorem dX10_laysAlike_218 : decode cX10_laysAlike 218 = .ok (.if_icmp .ne 188, 3) := by decide +kernel
theorem dX10_laysAlike_221 : decode cX10_laysAlike 221 = .ok (.aload_n 0, 1) := by decide +kernel
theorem dX10_laysAlike_222 : decode cX10_laysAlike 222 = .ok (.aload_n 0, 1) := by decide +kernel
theorem dX10_laysAlike_223 : decode cX10_laysAlike 223 = .ok (.getfield 43, 3) := by decide +kernel
theorem dX10_laysAlike_226 : decode cX10_laysAlike 226 = .ok (.iload_n 1, 1) := by decide +kernel
theorem dX10_laysAlike_227 : decode cX10_laysAlike 227 = .ok (.iaload, 1) := by decide +kernel
theorem dX10_laysAlike_228 : decode cX10_laysAlike 228 = .ok (.aload_n 0, 1) := by decide +kernel
theorem dX10_laysAlike_229 : decode cX10_laysAlike 229 = .ok (.getfield 7, 3) := by decide +kernel
theorem dX10_laysAlike_232 : decode cX10_laysAlike 232 = .ok (.bipush 41, 2) := by decide +kernel
theorem dX10_laysAlike_234 : decode cX10_laysAlike 234 = .ok (.aload_n 0, 1) := by decide +kernel
theorem dX10_laysAlike_235 : decode cX10_laysAlike 235 = .ok (.getfield 43, 3) := by decide +kernel
theorem dX10_laysAlike_238 : decode cX10_laysAlike 238 = .ok (.iload_n 2, 1) := by decide +kernel
theorem dX10_laysAlike_239 : decode cX10_laysAlike 239 = .ok (.iaload, 1) := by decide +kernel
theorem dX10_laysAlike_240 : decode cX10_laysAlike 240 = .ok (.iadd, 1) := by decide +kernel
theorem dX10_laysAlike_241 : decode cX10_laysAlike 241 = .ok (.iaload, 1) := by decide +kernel
theorem dX10_laysAlike_242 : decode cX10_laysAlike 242 = .ok (.aload_n 0, 1) := by decide +kernel
theorem dX10_laysAlike_243 : decode cX10_laysAlike 243 = .ok (.getfield 43, 3) := by decide +kernel
theorem dX10_laysAlike_246 : decode cX10_laysAlike 246 = .ok (.iload 4, 2) := by decide +kernel
theorem dX10_laysAlike_248 : decode cX10_laysAlike 248 = .ok (.iaload, 1) := by decide +kernel
theorem dX10_laysAlike_249 : decode cX10_laysAlike 249 = .ok (.invokevirtual 322, 3) := by decide +kernel
theorem dX10_laysAlike_252 : decode cX10_laysAlike 252 = .ok (.ifCond .eq 154, 3) := by decide +kernel
theorem dX10_laysAlike_255 : decode cX10_laysAlike 255 = .ok (.aload_n 0, 1) := by decide +kernel
theorem dX10_laysAlike_256 : decode cX10_laysAlike 256 = .ok (.iload_n 1, 1) := by decide +kernel
theorem dX10_laysAlike_257 : decode cX10_laysAlike 257 = .ok (.iload_n 2, 1) := by decide +kernel
theorem dX10_laysAlike_258 : decode cX10_laysAlike 258 = .ok (.invokevirtual 301, 3) := by decide +kernel
theorem dX10_laysAlike_261 : decode cX10_laysAlike 261 = .ok (.aload_n 0, 1) := by decide +kernel
theorem dX10_laysAlike_262 : decode cX10_laysAlike 262 = .ok (.getfield 252, 3) := by decide +kernel
theorem dX10_laysAlike_265 : decode cX10_laysAlike 265 = .ok (.istore 7, 2) := by decide +kernel
theorem dX10_laysAlike_267 : decode cX10_laysAlike 267 = .ok (.aload_n 0, 1) := by decide +kernel
theorem dX10_laysAlike_268 : decode cX10_laysAlike 268 = .ok (.aload_n 0, 1) := by decide +kernel
theorem dX10_laysAlike_269 : decode cX10_laysAlike 269 = .ok (.getfield 261, 3) := by decide +kernel
theorem dX10_laysAlike_272 : decode cX10_laysAlike 272 = .ok (.invokevirtual 325, 3) := by decide +kernel
theorem dX10_laysAlike_275 : decode cX10_laysAlike 275 = .ok (.istore 8, 2) := by decide +kernel
theorem dX10_laysAlike_277 : decode cX10_laysAlike 277 = .ok (.aload_n 0, 1) := by decide +kernel
theorem dX10_laysAlike_278 : decode cX10_laysAlike 278 = .ok (.aload_n 0, 1) := by decide +kernel
theorem dX10_laysAlike_279 : decode cX10_laysAlike 279 = .ok (.getfield 267, 3) := by decide +kernel
theorem dX10_laysAlike_282 : decode cX10_laysAlike 282 = .ok (.invokevirtual 325, 3) := by decide +kernel
theorem dX10_laysAlike_285 : decode cX10_laysAlike 285 = .ok (.istore 9, 2) := by decide +kernel
theorem dX10_laysAlike_287 : decode cX10_laysAlike 287 = .ok (.aload_n 0, 1) := by decide +kernel
theorem dX10_laysAlike_288 : decode cX10_laysAlike 288 = .ok (.iload 4, 2) := by decide +kernel
theorem dX10_laysAlike_290 : decode cX10_laysAlike 290 = .ok (.iload 5, 2) := by decide +kernel
theorem dX10_laysAlike_292 : decode cX10_laysAlike 292 = .ok (.invokevirtual 301, 3) := by decide +kernel
theorem dX10_laysAlike_295 : decode cX10_laysAlike 295 = .ok (.aload_n 0, 1) := by decide +kernel
theorem dX10_laysAlike_296 : decode cX10_laysAlike 296 = .ok (.getfield 273, 3) := by decide +kernel
theorem dX10_laysAlike_299 : decode cX10_laysAlike 299 = .ok (.ifCond .ne 107, 3) := by decide +kernel
theorem dX10_laysAlike_302 : decode cX10_laysAlike 302 = .ok (.aload_n 0, 1) := by decide +kernel
theorem dX10_laysAlike_303 : decode cX10_laysAlike 303 = .ok (.getfield 252, 3) := by decide +kernel
theorem dX10_laysAlike_306 : decode cX10_laysAlike 306 = .ok (.iload 7, 2) := by decide +kernel
theorem dX10_laysAlike_308 : decode cX10_laysAlike 308 = .ok (.if_icmp .ne 98, 3) := by decide +kernel
theorem dX10_laysAlike_311 : decode cX10_laysAlike 311 = .ok (.aload_n 0, 1) := by decide +kernel
theorem dX10_laysAlike_312 : decode cX10_laysAlike 312 = .ok (.getfield 261, 3) := by decide +kernel
theorem dX10_laysAlike_315 : decode cX10_laysAlike 315 = .ok (.iload 8, 2) := by decide +kernel
theorem dX10_laysAlike_317 : decode cX10_laysAlike 317 = .ok (.if_icmp .ne 89, 3) := by decide +kernel
theorem dX10_laysAlike_320 : decode cX10_laysAlike 320 = .ok (.aload_n 0, 1) := by decide +kernel
theorem dX10_laysAlike_321 : decode cX10_laysAlike 321 = .ok (.getfield 267, 3) := by decide +kernel
theorem dX10_laysAlike_324 : decode cX10_laysAlike 324 = .ok (.iload 9, 2) := by decide +kernel
theorem dX10_laysAlike_326 : decode cX10_laysAlike 326 = .ok (.if_icmp .ne 80, 3) := by decide +kernel
theorem dX10_laysAlike_329 : decode cX10_laysAlike 329 = .ok (.aload_n 0, 1) := by decide +kernel
theorem dX10_laysAlike_330 : decode cX10_laysAlike 330 = .ok (.getfield 89, 3) := by decide +kernel
theorem dX10_laysAlike_333 : decode cX10_laysAlike 333 = .ok (.aload_n 0, 1) := by decide +kernel
theorem dX10_laysAlike_334 : decode cX10_laysAlike 334 = .ok (.getfield 310, 3) := by decide +kernel
theorem dX10_laysAlike_337 : decode cX10_laysAlike 337 = .ok (.iload 4, 2) := by decide +kernel
theorem dX10_laysAlike_339 : decode cX10_laysAlike 339 = .ok (.iastore, 1) := by decide +kernel
theorem dX10_laysAlike_340 : decode cX10_laysAlike 340 = .ok (.aload_n 0, 1) := by decide +kernel
theorem dX10_laysAlike_341 : decode cX10_laysAlike 341 = .ok (.getfield 92, 3) := by decide +kernel
theorem dX10_laysAlike_344 : decode cX10_laysAlike 344 = .ok (.aload_n 0, 1) := by decide +kernel
theorem dX10_laysAlike_345 : decode cX10_laysAlike 345 = .ok (.getfield 310, 3) := by decide +kernel
theorem dX10_laysAlike_348 : decode cX10_laysAlike 348 = .ok (.aload_n 0, 1) := by decide +kernel
theorem dX10_laysAlike_349 : decode cX10_laysAlike 349 = .ok (.getfield 40, 3) := by decide +kernel
theorem dX10_laysAlike_352 : decode cX10_laysAlike 352 = .ok (.iload 5, 2) := by decide +kernel
theorem dX10_laysAlike_354 : decode cX10_laysAlike 354 = .ok (.iaload, 1) := by decide +kernel
theorem dX10_laysAlike_355 : decode cX10_laysAlike 355 = .ok (.iconst 1, 1) := by decide +kernel
theorem dX10_laysAlike_356 : decode cX10_laysAlike 356 = .ok (.isub, 1) := by decide +kernel
theorem dX10_laysAlike_357 : decode cX10_laysAlike 357 = .ok (.iastore, 1) := by decide +kernel
theorem dX10_laysAlike_358 : decode cX10_laysAlike 358 = .ok (.iconst 0, 1) := by decide +kernel
theorem dX10_laysAlike_359 : decode cX10_laysAlike 359 = .ok (.istore 10, 2) := by decide +kernel
theorem dX10_laysAlike_361 : decode cX10_laysAlike 361 = .ok (.iload 10, 2) := by decide +kernel
theorem dX10_laysAlike_363 : decode cX10_laysAlike 363 = .ok (.bipush 8, 2) := by decide +kernel
theorem dX10_laysAlike_365 : decode cX10_laysAlike 365 = .ok (.if_icmp .ge 31, 3) := by decide +kernel
theorem dX10_laysAlike_368 : decode cX10_laysAlike 368 = .ok (.aload_n 0, 1) := by decide +kernel
theorem dX10_laysAlike_369 : decode cX10_laysAlike 369 = .ok (.getfield 95, 3) := by decide +kernel
theorem dX10_laysAlike_372 : decode cX10_laysAlike 372 = .ok (.bipush 8, 2) := by decide +kernel
theorem dX10_laysAlike_374 : decode cX10_laysAlike 374 = .ok (.aload_n 0, 1) := by decide +kernel
theorem dX10_laysAlike_375 : decode cX10_laysAlike 375 = .ok (.getfield 310, 3) := by decide +kernel
theorem dX10_laysAlike_378 : decode cX10_laysAlike 378 = .ok (.imul, 1) := by decide +kernel
theorem dX10_laysAlike_379 : decode cX10_laysAlike 379 = .ok (.iload 10, 2) := by decide +kernel
theorem dX10_laysAlike_381 : decode cX10_laysAlike 381 = .ok (.iadd, 1) := by decide +kernel
theorem dX10_laysAlike_382 : decode cX10_laysAlike 382 = .ok (.aload_n 0, 1) := by decide +kernel
theorem dX10_laysAlike_383 : decode cX10_laysAlike 383 = .ok (.getfield 98, 3) := by decide +kernel
theorem dX10_laysAlike_386 : decode cX10_laysAlike 386 = .ok (.iload 10, 2) := by decide +kernel
theorem dX10_laysAlike_388 : decode cX10_laysAlike 388 = .ok (.iaload, 1) := by decide +kernel
theorem dX10_laysAlike_389 : decode cX10_laysAlike 389 = .ok (.iastore, 1) := by decide +kernel
theorem dX10_laysAlike_390 : decode cX10_laysAlike 390 = .ok (.iinc 10 1, 3) := by decide +kernel
theorem dX10_laysAlike_393 : decode cX10_laysAlike 393 = .ok (.goto (-32), 3) := by decide +kernel
theorem dX10_laysAlike_396 : decode cX10_laysAlike 396 = .ok (.aload_n 0, 1) := by decide +kernel
theorem dX10_laysAlike_397 : decode cX10_laysAlike 397 = .ok (.dup, 1) := by decide +kernel
theorem dX10_laysAlike_398 : decode cX10_laysAlike 398 = .ok (.getfield 310, 3) := by decide +kernel
theorem dX10_laysAlike_401 : decode cX10_laysAlike 401 = .ok (.iconst 1, 1) := by decide +kernel
theorem dX10_laysAlike_402 : decode cX10_laysAlike 402 = .ok (.iadd, 1) := by decide +kernel
theorem dX10_laysAlike_403 : decode cX10_laysAlike 403 = .ok (.putfield 310, 3) := by decide +kernel
theorem dX10_laysAlike_406 : decode cX10_laysAlike 406 = .ok (.iinc 4 1, 3) := by decide +kernel
theorem dX10_laysAlike_409 : decode cX10_laysAlike 409 = .ok (.goto (-394), 3) := by decide +kernel
theorem dX10_laysAlike_412 : decode cX10_laysAlike 412 = .ok (.aload_n 0, 1) := by decide +kernel
theorem dX10_laysAlike_413 : decode cX10_laysAlike 413 = .ok (.iload_n 1, 1) := by decide +kernel
theorem dX10_laysAlike_414 : decode cX10_laysAlike 414 = .ok (.iload_n 2, 1) := by decide +kernel
theorem dX10_laysAlike_415 : decode cX10_laysAlike 415 = .ok (.invokevirtual 301, 3) := by decide +kernel
theorem dX10_laysAlike_418 : decode cX10_laysAlike 418 = .ok (.return_, 1) := by decide +kernel
set_option maxHeartbeats 4000000 in
set_option maxRecDepth 10000 in
theorem vX10_laysAlike_0 {l : Launch} {M : sl_M} {Q : sl_R} {x1 x2 : Int} (H : sl_RM M → sl_rg x1 → sl_rg x2 → (∀ M1, M1 = sl_wr M 1 0 45 0 → sl_RI l mX10_lengthOf [vR 1 0, vI x1, vI x2] M1 (fun y3 M2 => sl_At l mX10_laysAlike 15 [(0, vR 1 0), (1, vI x1), (2, vI x2), (3, vI y3), (4, vI 0)] [] M2 Q))) : sl_At l mX10_laysAlike 0 [(0, vR 1 0), (1, vI x1), (2, vI x2)] [] M Q := by
  refine sl_At.in (fun hM hls => ?_)
  have g1 : sl_rg x1 := hls _ (List.mem_of_getElem? (i := 1) rfl)
  have g2 : sl_rg x2 := hls _ (List.mem_of_getElem? (i := 2) rfl)
  have H := H hM g1 g2
  refine r_aload_n (k := 0) rfl rfl dX10_laysAlike_0 ?_
  refine r_iconst dX10_laysAlike_1 ?_
  refine r_pI (k := 45) (kz := 45) rfl ckX10 rfl rfl (by decide) rfl rfl rfl rfl fl_X10_310 ⟨by decide, by decide⟩ dX10_laysAlike_2 ?_
  refine r_mm (fun M1 e1 => ?_)
  have H := H M1 e1
  have hM1 : sl_RM M1 := by rw [e1]; exact sl_wr_RM hM ⟨by decide, by decide⟩
  refine r_aload_n (k := 0) rfl rfl dX10_laysAlike_5 ?_
  refine r_iload_n (k := 1) rfl rfl dX10_laysAlike_6 ?_
  refine r_iload_n (k := 2) rfl rfl dX10_laysAlike_7 ?_
  refine r_callV (g := mX10_lengthOf) ckX10 rfl rfl rfl rfl mkX10_lengthOf mvX10_lengthOf ml_X10_313 ⟨by decide, by decide⟩ rfl (Nat.le_of_ble_eq_true rfl) rfl (ok_i g1 (ok_i g2 ok_n)) dX10_laysAlike_8 (sl_afterI (sl_RI.mono (fun y3 M2 gy3 hM2 H => ?_) H))
  refine r_istore_n (ls' := [(3, vI y3), (0, vR 1 0), (1, vI x1), (2, vI x2)]) gy3 rfl (by decide) rfl dX10_laysAlike_11 ?_
  refine r_iconst dX10_laysAlike_12 ?_
  refine r_istore (ls' := [(4, vI 0), (3, vI y3), (0, vR 1 0), (1, vI x1), (2, vI x2)]) ⟨by decide, by decide⟩ (by decide) rfl dX10_laysAlike_13 ?_
  exact sl_At.sub [2, 3, 4, 1, 0] rfl H
set_option maxHeartbeats 4000000 in
set_option maxRecDepth 10000 in
theorem vX10_laysAlike_15 {l : Launch} {M : sl_M} {Q : sl_R} {x1 x2 x3 x4 : Int} (H : sl_RM M → sl_rg x1 → sl_rg x2 → sl_rg x3 → sl_rg x4 → sl_RI l mX10_manyOf [vR 1 0, vI 0] M (fun y2 M1 => ((y2 ≤ x4) → sl_RV l mX10_laysSpan [vR 1 0, vI x1, vI x2] M1 (fun M4 => Q none M4)) ∧ ((¬ (y2 ≤ x4)) → sl_RI l mX10_lastOf [vR 1 0, vI x4, vI x3] M1 (fun y6 M5 => ((y6 = (-1)) → sl_At l mX10_laysAlike 102 [(0, vR 1 0), (1, vI x1), (2, vI x2), (3, vI x3), (4, vI x4), (5, vI y6), (6, vI 0), (7, vI 0)] [] M5 Q) ∧ ((¬ (y6 = (-1))) → (0 ≤ x2 ∧ x2 < 82) ∧ sl_RI l mX10_hasCall [vR 1 0, vI x1, vI (M5 1 20 x2)] M5 (fun y10 M9 => ((y10 ≠ 0) → sl_At l mX10_laysAlike 102 [(0, vR 1 0), (1, vI x1), (2, vI x2), (3, vI x3), (4, vI x4), (5, vI y6), (6, vI 0), (7, vI 0)] [] M9 Q) ∧ ((¬ (y10 ≠ 0)) → (0 ≤ y6 ∧ y6 < 82) ∧ sl_RI l mX10_hasCall [vR 1 0, vI x4, vI (M9 1 20 y6)] M9 (fun y14 M13 => (∀ y18 : Int, y18 = (if (¬ (y14 ≠ 0)) ∧ ((M13 1 20 y6 ≤ x1) ∨ (¬ (x4 < M13 1 20 x2))) then 1 else 0) → sl_At l mX10_laysAlike 102 [(0, vR 1 0), (1, vI x1), (2, vI x2), (3, vI x3), (4, vI x4), (5, vI y6), (6, vI y18), (7, vI 0)] [] M13 Q))))))))) : sl_At l mX10_laysAlike 15 [(0, vR 1 0), (1, vI x1), (2, vI x2), (3, vI x3), (4, vI x4)] [] M Q := by
  refine sl_At.in (fun hM hls => ?_)
  have g1 : sl_rg x1 := hls _ (List.mem_of_getElem? (i := 1) rfl)
  have g2 : sl_rg x2 := hls _ (List.mem_of_getElem? (i := 2) rfl)
  have g3 : sl_rg x3 := hls _ (List.mem_of_getElem? (i := 3) rfl)
  have g4 : sl_rg x4 := hls _ (List.mem_of_getElem? (i := 4) rfl)
  have H := H hM g1 g2 g3 g4
  refine r_iload (k := 4) rfl dX10_laysAlike_15 ?_
  refine r_aload_n (k := 0) rfl rfl dX10_laysAlike_17 ?_
  refine r_iconst dX10_laysAlike_18 ?_
  refine r_callV (g := mX10_manyOf) ckX10 rfl rfl rfl rfl mkX10_manyOf mvX10_manyOf ml_X10_201 ⟨by decide, by decide⟩ rfl (Nat.le_of_ble_eq_true rfl) rfl (ok_i ⟨by decide, by decide⟩ ok_n) dX10_laysAlike_19 (sl_afterI (sl_RI.mono (fun y2 M1 gy2 hM1 H => ?_) H))
  refine r_icmp_ge (tgt := 412) g4 gy2 dX10_laysAlike_22 (by decide) (fun h3 => ?_) (fun h3 => ?_)
  · have H := H.1 h3
    refine r_aload_n (k := 0) rfl rfl dX10_laysAlike_412 ?_
    refine r_iload_n (k := 1) rfl rfl dX10_laysAlike_413 ?_
    refine r_iload_n (k := 2) rfl rfl dX10_laysAlike_414 ?_
    refine r_callV (g := mX10_laysSpan) ckX10 rfl rfl rfl rfl mkX10_laysSpan mvX10_laysSpan ml_X10_301 ⟨by decide, by decide⟩ rfl (Nat.le_of_ble_eq_true rfl) rfl (ok_i g1 (ok_i g2 ok_n)) dX10_laysAlike_415 (sl_afterV (sl_RV.mono (fun M4 hM4 H => ?_) H))
    refine r_vret rfl dX10_laysAlike_418 ?_
    exact H
  · have H := H.2 h3
    refine r_aload_n (k := 0) rfl rfl dX10_laysAlike_25 ?_
    refine r_iload (k := 4) rfl dX10_laysAlike_26 ?_
    refine r_iload_n (k := 3) rfl rfl dX10_laysAlike_28 ?_
    refine r_callV (g := mX10_lastOf) ckX10 rfl rfl rfl rfl mkX10_lastOf mvX10_lastOf ml_X10_316 ⟨by decide, by decide⟩ rfl (Nat.le_of_ble_eq_true rfl) rfl (ok_i g4 (ok_i g3 ok_n)) dX10_laysAlike_29 (sl_afterI (sl_RI.mono (fun y6 M5 gy6 hM5 H => ?_) H))
    refine r_istore (ls' := [(5, vI y6), (0, vR 1 0), (1, vI x1), (2, vI x2), (3, vI x3), (4, vI x4)]) gy6 (by decide) rfl dX10_laysAlike_32 ?_
    refine r_iload (k := 0) rfl dX10_laysAlike_34 ?_
    refine r_iconst dX10_laysAlike_36 ?_
    refine r_icmp_eq (tgt := 96) gy6 ⟨by decide, by decide⟩ dX10_laysAlike_37 (by decide) (fun h7 => ?_) (fun h7 => ?_)
    · have H := H.1 h7
      refine r_iconst dX10_laysAlike_96 ?_
      refine r_istore (ls' := [(6, vI 0), (5, vI y6), (0, vR 1 0), (1, vI x1), (2, vI x2), (3, vI x3), (4, vI x4)]) ⟨by decide, by decide⟩ (by decide) rfl dX10_laysAlike_97 ?_
      refine r_iconst dX10_laysAlike_99 ?_
      refine r_istore (ls' := [(7, vI 0), (6, vI 0), (5, vI y6), (0, vR 1 0), (1, vI x1), (2, vI x2), (3, vI x3), (4, vI x4)]) ⟨by decide, by decide⟩ (by decide) rfl dX10_laysAlike_100 ?_
      exact sl_At.sub [3, 4, 5, 6, 7, 2, 1, 0] rfl H
    · have H := H.2 h7
      refine r_aload_n (k := 1) rfl rfl dX10_laysAlike_40 ?_
      refine r_iload_n (k := 2) rfl rfl dX10_laysAlike_41 ?_
      refine r_aload_n (k := 1) rfl rfl dX10_laysAlike_42 ?_
      refine r_getR (k := 19) (o' := 1) (i' := 20) ckX10 rfl rfl (by decide) rfl rfl rfl fl_X10_40 dX10_laysAlike_43 ?_
      refine r_iload_n (k := 3) rfl rfl dX10_laysAlike_46 ?_
      obtain ⟨c8, H⟩ := H
      refine r_iald rfl rfl rfl c8 dX10_laysAlike_47 ?_
      refine r_callV (g := mX10_hasCall) ckX10 rfl rfl rfl rfl mkX10_hasCall mvX10_hasCall ml_X10_319 ⟨by decide, by decide⟩ rfl (Nat.le_of_ble_eq_true rfl) rfl (ok_i g1 (ok_i (hM5 _ _ _) ok_n)) dX10_laysAlike_48 (sl_afterI (sl_RI.mono (fun y10 M9 gy10 hM9 H => ?_) H))
      refine r_if_ne (tgt := 96) gy10 dX10_laysAlike_51 (by decide) (fun h11 => ?_) (fun h11 => ?_)
      · have H := H.1 h11
        refine r_iconst dX10_laysAlike_96 ?_
        refine r_istore (ls' := [(6, vI 0), (5, vI y6), (0, vR 1 0), (1, vI x1), (2, vI x2), (3, vI x3), (4, vI x4)]) ⟨by decide, by decide⟩ (by decide) rfl dX10_laysAlike_97 ?_
        refine r_iconst dX10_laysAlike_99 ?_
        refine r_istore (ls' := [(7, vI 0), (6, vI 0), (5, vI y6), (0, vR 1 0), (1, vI x1), (2, vI x2), (3, vI x3), (4, vI x4)]) ⟨by decide, by decide⟩ (by decide) rfl dX10_laysAlike_100 ?_
        exact sl_At.sub [3, 4, 5, 6, 7, 2, 1, 0] rfl H
      · have H := H.2 h11
        refine r_aload_n (k := 1) rfl rfl dX10_laysAlike_54 ?_
        refine r_iload (k := 5) rfl dX10_laysAlike_55 ?_
        refine r_aload_n (k := 1) rfl rfl dX10_laysAlike_57 ?_
        refine r_getR (k := 19) (o' := 1) (i' := 20) ckX10 rfl rfl (by decide) rfl rfl rfl fl_X10_40 dX10_laysAlike_58 ?_
        refine r_iload (k := 0) rfl dX10_laysAlike_61 ?_
        obtain ⟨c12, H⟩ := H
        refine r_iald rfl rfl rfl c12 dX10_laysAlike_63 ?_
        refine r_callV (g := mX10_hasCall) ckX10 rfl rfl rfl rfl mkX10_hasCall mvX10_hasCall ml_X10_319 ⟨by decide, by decide⟩ rfl (Nat.le_of_ble_eq_true rfl) rfl (ok_i g4 (ok_i (hM9 _ _ _) ok_n)) dX10_laysAlike_64 (sl_afterI (sl_RI.mono (fun y14 M13 gy14 hM13 H => ?_) H))
        have J : sl_At l mX10_laysAlike 97 [(5, vI y6), (0, vR 1 0), (1, vI x1), (2, vI x2), (3, vI x3), (4, vI x4)] [vI (if (¬ (y14 ≠ 0)) ∧ ((M13 1 20 y6 ≤ x1) ∨ (¬ (x4 < M13 1 20 x2))) then 1 else 0)] M13 Q := by
          refine r_nm (fun y18 fy18 => ?_)
          have H := H y18 fy18
          have gy18 : sl_rg y18 := by rw [fy18]; exact rg_b
          refine r_istore (ls' := [(6, vI y18), (5, vI y6), (0, vR 1 0), (1, vI x1), (2, vI x2), (3, vI x3), (4, vI x4)]) gy18 (by decide) rfl dX10_laysAlike_97 ?_
          refine r_iconst dX10_laysAlike_99 ?_
          refine r_istore (ls' := [(7, vI 0), (6, vI y18), (5, vI y6), (0, vR 1 0), (1, vI x1), (2, vI x2), (3, vI x3), (4, vI x4)]) ⟨by decide, by decide⟩ (by decide) rfl dX10_laysAlike_100 ?_
          exact sl_At.sub [3, 4, 5, 6, 7, 2, 1, 0] rfl H
        refine r_if_ne (tgt := 96) gy14 dX10_laysAlike_67 (by decide) (fun h15 => ?_) (fun h15 => ?_)
        · refine r_iconst dX10_laysAlike_96 ?_
          rw [if_neg (show ¬ ((¬ (y14 ≠ 0)) ∧ ((M13 1 20 y6 ≤ x1) ∨ (¬ (x4 < M13 1 20 x2)))) by omega)] at J
          exact J
        · refine r_aload_n (k := 1) rfl rfl dX10_laysAlike_70 ?_
          refine r_getR (k := 19) (o' := 1) (i' := 20) ckX10 rfl rfl (by decide) rfl rfl rfl fl_X10_40 dX10_laysAlike_71 ?_
          refine r_iload (k := 0) rfl dX10_laysAlike_74 ?_
          refine r_iald rfl rfl rfl c12 dX10_laysAlike_76 ?_
          refine r_iload_n (k := 2) rfl rfl dX10_laysAlike_77 ?_
          refine r_icmp_le (tgt := 92) (hM13 _ _ _) g1 dX10_laysAlike_78 (by decide) (fun h16 => ?_) (fun h16 => ?_)
          · refine r_iconst dX10_laysAlike_92 ?_
            refine r_goto (tgt := 97) dX10_laysAlike_93 (by decide) ?_
            rw [if_pos (show (¬ (y14 ≠ 0)) ∧ ((M13 1 20 y6 ≤ x1) ∨ (¬ (x4 < M13 1 20 x2))) by omega)] at J
            exact J
          · refine r_iload (k := 5) rfl dX10_laysAlike_81 ?_
            refine r_aload_n (k := 1) rfl rfl dX10_laysAlike_83 ?_
            refine r_getR (k := 19) (o' := 1) (i' := 20) ckX10 rfl rfl (by decide) rfl rfl rfl fl_X10_40 dX10_laysAlike_84 ?_
            refine r_iload_n (k := 3) rfl rfl dX10_laysAlike_87 ?_
            refine r_iald rfl rfl rfl c8 dX10_laysAlike_88 ?_
            refine r_icmp_lt (tgt := 96) g4 (hM13 _ _ _) dX10_laysAlike_89 (by decide) (fun h17 => ?_) (fun h17 => ?_)
            · refine r_iconst dX10_laysAlike_96 ?_
              rw [if_neg (show ¬ ((¬ (y14 ≠ 0)) ∧ ((M13 1 20 y6 ≤ x1) ∨ (¬ (x4 < M13 1 20 x2)))) by omega)] at J
              exact J
            · refine r_iconst dX10_laysAlike_92 ?_
              refine r_goto (tgt := 97) dX10_laysAlike_93 (by decide) ?_
              rw [if_pos (show (¬ (y14 ≠ 0)) ∧ ((M13 1 20 y6 ≤ x1) ∨ (¬ (x4 < M13 1 20 x2))) by omega)] at J
              exact J
set_option maxHeartbeats 4000000 in
set_option maxRecDepth 10000 in
theorem vX10_laysAlike_102 {l : Launch} {M : sl_M} {Q : sl_R} {x1 x2 x3 x4 x5 x6 x7 : Int} (H : sl_RM M → sl_rg x1 → sl_rg x2 → sl_rg x3 → sl_rg x4 → sl_rg x5 → sl_rg x6 → sl_rg x7 → ((M 1 0 45 ≤ x7) → ((x6 = 0) → (sl_rg (x4 + 1)) ∧ sl_At l mX10_laysAlike 15 [(0, vR 1 0), (1, vI x1), (2, vI x2), (3, vI x3), (4, vI (x4 + 1))] [] M Q) ∧ ((¬ (x6 = 0)) → (0 ≤ x5 ∧ x5 < 82) ∧ (0 ≤ 41 + (M 1 21 x5) ∧ 41 + (M 1 21 x5) < 990) ∧ (0 ≤ x4 ∧ x4 < 82) ∧ (0 ≤ x2 ∧ x2 < 82) ∧ (0 ≤ 41 + (M 1 21 x2) ∧ 41 + (M 1 21 x2) < 990) ∧ (0 ≤ x1 ∧ x1 < 82) ∧ (sl_rg (M 1 1 (41 + (M 1 21 x5)) - (M 1 21 x4))) ∧ (sl_rg (M 1 1 (41 + (M 1 21 x2)) - (M 1 21 x1))) ∧ ((M 1 1 (41 + (M 1 21 x5)) - (M 1 21 x4) ≠ M 1 1 (41 + (M 1 21 x2)) - (M 1 21 x1)) → (sl_rg (x4 + 1)) ∧ sl_At l mX10_laysAlike 15 [(0, vR 1 0), (1, vI x1), (2, vI x2), (3, vI x3), (4, vI (x4 + 1))] [] M Q) ∧ ((¬ (M 1 1 (41 + (M 1 21 x5)) - (M 1 21 x4) ≠ M 1 1 (41 + (M 1 21 x2)) - (M 1 21 x1))) → sl_RI l mX10_areAlike [vR 1 0, vI (M 1 21 x1), vI (M 1 1 (41 + (M 1 21 x2))), vI (M 1 21 x4)] M (fun y15 M14 => ((y15 = 0) → (sl_rg (x4 + 1)) ∧ sl_At l mX10_laysAlike 15 [(0, vR 1 0), (1, vI x1), (2, vI x2), (3, vI x3), (4, vI (x4 + 1))] [] M14 Q) ∧ ((¬ (y15 = 0)) → sl_RV l mX10_laysSpan [vR 1 0, vI x1, vI x2] M14 (fun M18 => sl_RI l mX10_answered [vR 1 0, vI (M18 1 0 34)] M18 (fun y20 M19 => sl_RI l mX10_answered [vR 1 0, vI (M19 1 0 35)] M19 (fun y22 M21 => sl_RV l mX10_laysSpan [vR 1 0, vI x4, vI x5] M21 (fun M23 => ((M23 1 0 37 ≠ 0) → (sl_rg (x4 + 1)) ∧ sl_At l mX10_laysAlike 15 [(0, vR 1 0), (1, vI x1), (2, vI x2), (3, vI x3), (4, vI (x4 + 1))] [] M23 Q) ∧ ((¬ (M23 1 0 37 ≠ 0)) → ((M23 1 0 33 ≠ M18 1 0 33) → (sl_rg (x4 + 1)) ∧ sl_At l mX10_laysAlike 15 [(0, vR 1 0), (1, vI x1), (2, vI x2), (3, vI x3), (4, vI (x4 + 1))] [] M23 Q) ∧ ((¬ (M23 1 0 33 ≠ M18 1 0 33)) → ((M23 1 0 34 ≠ y20) → (sl_rg (x4 + 1)) ∧ sl_At l mX10_laysAlike 15 [(0, vR 1 0), (1, vI x1), (2, vI x2), (3, vI x3), (4, vI (x4 + 1))] [] M23 Q) ∧ ((¬ (M23 1 0 34 ≠ y20)) → ((M23 1 0 35 ≠ y22) → (sl_rg (x4 + 1)) ∧ sl_At l mX10_laysAlike 15 [(0, vR 1 0), (1, vI x1), (2, vI x2), (3, vI x3), (4, vI (x4 + 1))] [] M23 Q) ∧ ((¬ (M23 1 0 35 ≠ y22)) → (0 ≤ M23 1 0 45 ∧ M23 1 0 45 < 40) ∧ (∀ M33, M33 = sl_wr M23 1 47 (M23 1 0 45) x4 → (0 ≤ M33 1 0 45 ∧ M33 1 0 45 < 40) ∧ (sl_rg (M33 1 20 x5 - 1)) ∧ (∀ M36, M36 = sl_wr M33 1 48 (M33 1 0 45) (M33 1 20 x5 - 1) → sl_At l mX10_laysAlike 361 [(0, vR 1 0), (1, vI x1), (2, vI x2), (3, vI x3), (4, vI x4), (10, vI 0)] [] M36 Q))))))))))))))) ∧ ((¬ (M 1 0 45 ≤ x7)) → (((¬ (x6 = 0)) → ((x5 ≠ (-1)) → (0 ≤ x5 ∧ x5 < 82) ∧ (0 ≤ x7 ∧ x7 < 40)) ∧ ((¬ (x5 ≠ (-1))) → (0 ≤ x4 ∧ x4 < 82) ∧ (0 ≤ x7 ∧ x7 < 40)))) ∧ (∀ y47 : Int, y47 = (if (¬ (x6 = 0)) ∧ (((x5 ≠ (-1)) ∧ ((M 1 20 x5 ≤ M 1 47 x7) ∨ (¬ (x4 ≤ M 1 48 x7)))) ∨ ((¬ (x5 ≠ (-1))) ∧ ((M 1 20 x4 ≤ M 1 47 x7) ∨ (¬ (x4 ≤ M 1 48 x7))))) then 1 else 0) → (sl_rg (x7 + 1)) ∧ sl_At l mX10_laysAlike 102 [(0, vR 1 0), (1, vI x1), (2, vI x2), (3, vI x3), (4, vI x4), (5, vI x5), (6, vI y47), (7, vI (x7 + 1))] [] M Q))) : sl_At l mX10_laysAlike 102 [(0, vR 1 0), (1, vI x1), (2, vI x2), (3, vI x3), (4, vI x4), (5, vI x5), (6, vI x6), (7, vI x7)] [] M Q := by
  refine sl_At.in (fun hM hls => ?_)
  have g1 : sl_rg x1 := hls _ (List.mem_of_getElem? (i := 1) rfl)
  have g2 : sl_rg x2 := hls _ (List.mem_of_getElem? (i := 2) rfl)
  have g3 : sl_rg x3 := hls _ (List.mem_of_getElem? (i := 3) rfl)
  have g4 : sl_rg x4 := hls _ (List.mem_of_getElem? (i := 4) rfl)
  have g5 : sl_rg x5 := hls _ (List.mem_of_getElem? (i := 5) rfl)
  have g6 : sl_rg x6 := hls _ (List.mem_of_getElem? (i := 6) rfl)
  have g7 : sl_rg x7 := hls _ (List.mem_of_getElem? (i := 7) rfl)
  have H := H hM g1 g2 g3 g4 g5 g6 g7
  refine r_iload (k := 7) rfl dX10_laysAlike_102 ?_
  refine r_aload_n (k := 0) rfl rfl dX10_laysAlike_104 ?_
  refine r_gI (k := 45) (kz := 45) rfl ckX10 rfl rfl (by decide) rfl rfl fl_X10_310 dX10_laysAlike_105 ?_
  refine r_icmp_ge (tgt := 169) g7 (hM _ _ _) dX10_laysAlike_108 (by decide) (fun h1 => ?_) (fun h1 => ?_)
  · have H := H.1 h1
    refine r_iload (k := 6) rfl dX10_laysAlike_169 ?_
    refine r_if_eq (tgt := 406) g6 dX10_laysAlike_171 (by decide) (fun h2 => ?_) (fun h2 => ?_)
    · have H := H.1 h2
      obtain ⟨c3, H⟩ := H
      refine r_iinc (k := 4) (ls' := [(4, vI (x4 + 1)), (0, vR 1 0), (1, vI x1), (2, vI x2), (3, vI x3), (5, vI x5), (6, vI x6), (7, vI x7)]) rfl c3 (by decide) rfl dX10_laysAlike_406 ?_
      refine r_goto (tgt := 15) dX10_laysAlike_409 (by decide) ?_
      exact sl_At.sub [1, 2, 3, 4, 0] rfl H
    · have H := H.2 h2
      refine r_aload_n (k := 0) rfl rfl dX10_laysAlike_174 ?_
      refine r_getR (k := 0) (o' := 1) (i' := 1) ckX10 rfl rfl (by decide) rfl rfl rfl fl_X10_7 dX10_laysAlike_175 ?_
      refine r_bipush dX10_laysAlike_178 (by decide) ?_
      refine r_aload_n (k := 0) rfl rfl dX10_laysAlike_180 ?_
      refine r_getR (k := 20) (o' := 1) (i' := 21) ckX10 rfl rfl (by decide) rfl rfl rfl fl_X10_43 dX10_laysAlike_181 ?_
      refine r_iload (k := 5) rfl dX10_laysAlike_184 ?_
      obtain ⟨c4, H⟩ := H
      refine r_iald rfl rfl rfl c4 dX10_laysAlike_186 ?_
      refine r_iadd dX10_laysAlike_187 ?_
      obtain ⟨c5, H⟩ := H
      refine r_iald rfl rfl rfl c5 dX10_laysAlike_188 ?_
      refine r_aload_n (k := 0) rfl rfl dX10_laysAlike_189 ?_
      refine r_getR (k := 20) (o' := 1) (i' := 21) ckX10 rfl rfl (by decide) rfl rfl rfl fl_X10_43 dX10_laysAlike_190 ?_
      refine r_iload (k := 4) rfl dX10_laysAlike_193 ?_
      obtain ⟨c6, H⟩ := H
      refine r_iald rfl rfl rfl c6 dX10_laysAlike_195 ?_
      refine r_isub dX10_laysAlike_196 ?_
      refine r_aload_n (k := 0) rfl rfl dX10_laysAlike_197 ?_
      refine r_getR (k := 0) (o' := 1) (i' := 1) ckX10 rfl rfl (by decide) rfl rfl rfl fl_X10_7 dX10_laysAlike_198 ?_
      refine r_bipush dX10_laysAlike_201 (by decide) ?_
      refine r_aload_n (k := 0) rfl rfl dX10_laysAlike_203 ?_
      refine r_getR (k := 20) (o' := 1) (i' := 21) ckX10 rfl rfl (by decide) rfl rfl rfl fl_X10_43 dX10_laysAlike_204 ?_
      refine r_iload_n (k := 2) rfl rfl dX10_laysAlike_207 ?_
      obtain ⟨c7, H⟩ := H
      refine r_iald rfl rfl rfl c7 dX10_laysAlike_208 ?_
      refine r_iadd dX10_laysAlike_209 ?_
      obtain ⟨c8, H⟩ := H
      refine r_iald rfl rfl rfl c8 dX10_laysAlike_210 ?_
      refine r_aload_n (k := 0) rfl rfl dX10_laysAlike_211 ?_
      refine r_getR (k := 20) (o' := 1) (i' := 21) ckX10 rfl rfl (by decide) rfl rfl rfl fl_X10_43 dX10_laysAlike_212 ?_
      refine r_iload_n (k := 1) rfl rfl dX10_laysAlike_215 ?_
      obtain ⟨c9, H⟩ := H
      refine r_iald rfl rfl rfl c9 dX10_laysAlike_216 ?_
      refine r_isub dX10_laysAlike_217 ?_
      obtain ⟨c10, H⟩ := H
      obtain ⟨c11, H⟩ := H
      refine r_icmp_ne (tgt := 406) c10 c11 dX10_laysAlike_218 (by decide) (fun h12 => ?_) (fun h12 => ?_)
      · have H := H.1 h12
        obtain ⟨c13, H⟩ := H
        refine r_iinc (k := 4) (ls' := [(4, vI (x4 + 1)), (0, vR 1 0), (1, vI x1), (2, vI x2), (3, vI x3), (5, vI x5), (6, vI x6), (7, vI x7)]) rfl c13 (by decide) rfl dX10_laysAlike_406 ?_
        refine r_goto (tgt := 15) dX10_laysAlike_409 (by decide) ?_
        exact sl_At.sub [1, 2, 3, 4, 0] rfl H
      · have H := H.2 h12
        refine r_aload_n (k := 0) rfl rfl dX10_laysAlike_221 ?_
        refine r_aload_n (k := 0) rfl rfl dX10_laysAlike_222 ?_
        refine r_getR (k := 20) (o' := 1) (i' := 21) ckX10 rfl rfl (by decide) rfl rfl rfl fl_X10_43 dX10_laysAlike_223 ?_
        refine r_iload_n (k := 1) rfl rfl dX10_laysAlike_226 ?_
        refine r_iald rfl rfl rfl c9 dX10_laysAlike_227 ?_
        refine r_aload_n (k := 0) rfl rfl dX10_laysAlike_228 ?_
        refine r_getR (k := 0) (o' := 1) (i' := 1) ckX10 rfl rfl (by decide) rfl rfl rfl fl_X10_7 dX10_laysAlike_229 ?_
        refine r_bipush dX10_laysAlike_232 (by decide) ?_
        refine r_aload_n (k := 0) rfl rfl dX10_laysAlike_234 ?_
        refine r_getR (k := 20) (o' := 1) (i' := 21) ckX10 rfl rfl (by decide) rfl rfl rfl fl_X10_43 dX10_laysAlike_235 ?_
        refine r_iload_n (k := 2) rfl rfl dX10_laysAlike_238 ?_
        refine r_iald rfl rfl rfl c7 dX10_laysAlike_239 ?_
        refine r_iadd dX10_laysAlike_240 ?_
        refine r_iald rfl rfl rfl c8 dX10_laysAlike_241 ?_
        refine r_aload_n (k := 0) rfl rfl dX10_laysAlike_242 ?_
        refine r_getR (k := 20) (o' := 1) (i' := 21) ckX10 rfl rfl (by decide) rfl rfl rfl fl_X10_43 dX10_laysAlike_243 ?_
        refine r_iload (k := 4) rfl dX10_laysAlike_246 ?_
        refine r_iald rfl rfl rfl c6 dX10_laysAlike_248 ?_
        refine r_callV (g := mX10_areAlike) ckX10 rfl rfl rfl rfl mkX10_areAlike mvX10_areAlike ml_X10_322 ⟨by decide, by decide⟩ rfl (Nat.le_of_ble_eq_true rfl) rfl (ok_i (hM _ _ _) (ok_i (hM _ _ _) (ok_i (hM _ _ _) ok_n))) dX10_laysAlike_249 (sl_afterI (sl_RI.mono (fun y15 M14 gy15 hM14 H => ?_) H))
        refine r_if_eq (tgt := 406) gy15 dX10_laysAlike_252 (by decide) (fun h16 => ?_) (fun h16 => ?_)
        · have H := H.1 h16
          obtain ⟨c17, H⟩ := H
          refine r_iinc (k := 4) (ls' := [(4, vI (x4 + 1)), (0, vR 1 0), (1, vI x1), (2, vI x2), (3, vI x3), (5, vI x5), (6, vI x6), (7, vI x7)]) rfl c17 (by decide) rfl dX10_laysAlike_406 ?_
          refine r_goto (tgt := 15) dX10_laysAlike_409 (by decide) ?_
          exact sl_At.sub [1, 2, 3, 4, 0] rfl H
        · have H := H.2 h16
          refine r_aload_n (k := 0) rfl rfl dX10_laysAlike_255 ?_
          refine r_iload_n (k := 1) rfl rfl dX10_laysAlike_256 ?_
          refine r_iload_n (k := 2) rfl rfl dX10_laysAlike_257 ?_
          refine r_callV (g := mX10_laysSpan) ckX10 rfl rfl rfl rfl mkX10_laysSpan mvX10_laysSpan ml_X10_301 ⟨by decide, by decide⟩ rfl (Nat.le_of_ble_eq_true rfl) rfl (ok_i g1 (ok_i g2 ok_n)) dX10_laysAlike_258 (sl_afterV (sl_RV.mono (fun M18 hM18 H => ?_) H))
          refine r_aload_n (k := 0) rfl rfl dX10_laysAlike_261 ?_
          refine r_gI (k := 33) (kz := 33) rfl ckX10 rfl rfl (by decide) rfl rfl fl_X10_252 dX10_laysAlike_262 ?_
          refine r_istore (ls' := [(7, vI (M18 1 0 33)), (0, vR 1 0), (1, vI x1), (2, vI x2), (3, vI x3), (4, vI x4), (5, vI x5), (6, vI x6)]) (hM18 _ _ _) (by decide) rfl dX10_laysAlike_265 ?_
          refine r_aload_n (k := 1) rfl rfl dX10_laysAlike_267 ?_
          refine r_aload_n (k := 1) rfl rfl dX10_laysAlike_268 ?_
          refine r_gI (k := 34) (kz := 34) rfl ckX10 rfl rfl (by decide) rfl rfl fl_X10_261 dX10_laysAlike_269 ?_
          refine r_callV (g := mX10_answered) ckX10 rfl rfl rfl rfl mkX10_answered mvX10_answered ml_X10_325 ⟨by decide, by decide⟩ rfl (Nat.le_of_ble_eq_true rfl) rfl (ok_i (hM18 _ _ _) ok_n) dX10_laysAlike_272 (sl_afterI (sl_RI.mono (fun y20 M19 gy20 hM19 H => ?_) H))
          refine r_istore (ls' := [(8, vI y20), (7, vI (M18 1 0 33)), (0, vR 1 0), (1, vI x1), (2, vI x2), (3, vI x3), (4, vI x4), (5, vI x5), (6, vI x6)]) gy20 (by decide) rfl dX10_laysAlike_275 ?_
          refine r_aload_n (k := 2) rfl rfl dX10_laysAlike_277 ?_
          refine r_aload_n (k := 2) rfl rfl dX10_laysAlike_278 ?_
          refine r_gI (k := 35) (kz := 35) rfl ckX10 rfl rfl (by decide) rfl rfl fl_X10_267 dX10_laysAlike_279 ?_
          refine r_callV (g := mX10_answered) ckX10 rfl rfl rfl rfl mkX10_answered mvX10_answered ml_X10_325 ⟨by decide, by decide⟩ rfl (Nat.le_of_ble_eq_true rfl) rfl (ok_i (hM19 _ _ _) ok_n) dX10_laysAlike_282 (sl_afterI (sl_RI.mono (fun y22 M21 gy22 hM21 H => ?_) H))
          refine r_istore (ls' := [(9, vI y22), (8, vI y20), (7, vI (M18 1 0 33)), (0, vR 1 0), (1, vI x1), (2, vI x2), (3, vI x3), (4, vI x4), (5, vI x5), (6, vI x6)]) gy22 (by decide) rfl dX10_laysAlike_285 ?_
          refine r_aload_n (k := 3) rfl rfl dX10_laysAlike_287 ?_
          refine r_iload (k := 7) rfl dX10_laysAlike_288 ?_
          refine r_iload (k := 8) rfl dX10_laysAlike_290 ?_
          refine r_callV (g := mX10_laysSpan) ckX10 rfl rfl rfl rfl mkX10_laysSpan mvX10_laysSpan ml_X10_301 ⟨by decide, by decide⟩ rfl (Nat.le_of_ble_eq_true rfl) rfl (ok_i g4 (ok_i g5 ok_n)) dX10_laysAlike_292 (sl_afterV (sl_RV.mono (fun M23 hM23 H => ?_) H))
          refine r_aload_n (k := 3) rfl rfl dX10_laysAlike_295 ?_
          refine r_gI (k := 37) (kz := 37) rfl ckX10 rfl rfl (by decide) rfl rfl fl_X10_273 dX10_laysAlike_296 ?_
          refine r_if_ne (tgt := 406) (hM23 _ _ _) dX10_laysAlike_299 (by decide) (fun h24 => ?_) (fun h24 => ?_)
          · have H := H.1 h24
            obtain ⟨c25, H⟩ := H
            refine r_iinc (k := 7) (ls' := [(4, vI (x4 + 1)), (9, vI y22), (8, vI y20), (7, vI (M18 1 0 33)), (0, vR 1 0), (1, vI x1), (2, vI x2), (3, vI x3), (5, vI x5), (6, vI x6)]) rfl c25 (by decide) rfl dX10_laysAlike_406 ?_
            refine r_goto (tgt := 15) dX10_laysAlike_409 (by decide) ?_
            exact sl_At.sub [4, 5, 6, 7, 0] rfl H
          · have H := H.2 h24
            refine r_aload_n (k := 3) rfl rfl dX10_laysAlike_302 ?_
            refine r_gI (k := 33) (kz := 33) rfl ckX10 rfl rfl (by decide) rfl rfl fl_X10_252 dX10_laysAlike_303 ?_
            refine r_iload (k := 2) rfl dX10_laysAlike_306 ?_
            refine r_icmp_ne (tgt := 406) (hM23 _ _ _) (hM18 _ _ _) dX10_laysAlike_308 (by decide) (fun h26 => ?_) (fun h26 => ?_)
            · have H := H.1 h26
              obtain ⟨c27, H⟩ := H
              refine r_iinc (k := 7) (ls' := [(4, vI (x4 + 1)), (9, vI y22), (8, vI y20), (7, vI (M18 1 0 33)), (0, vR 1 0), (1, vI x1), (2, vI x2), (3, vI x3), (5, vI x5), (6, vI x6)]) rfl c27 (by decide) rfl dX10_laysAlike_406 ?_
              refine r_goto (tgt := 15) dX10_laysAlike_409 (by decide) ?_
              exact sl_At.sub [4, 5, 6, 7, 0] rfl H
            · have H := H.2 h26
              refine r_aload_n (k := 3) rfl rfl dX10_laysAlike_311 ?_
              refine r_gI (k := 34) (kz := 34) rfl ckX10 rfl rfl (by decide) rfl rfl fl_X10_261 dX10_laysAlike_312 ?_
              refine r_iload (k := 1) rfl dX10_laysAlike_315 ?_
              refine r_icmp_ne (tgt := 406) (hM23 _ _ _) gy20 dX10_laysAlike_317 (by decide) (fun h28 => ?_) (fun h28 => ?_)
              · have H := H.1 h28
                obtain ⟨c29, H⟩ := H
                refine r_iinc (k := 7) (ls' := [(4, vI (x4 + 1)), (9, vI y22), (8, vI y20), (7, vI (M18 1 0 33)), (0, vR 1 0), (1, vI x1), (2, vI x2), (3, vI x3), (5, vI x5), (6, vI x6)]) rfl c29 (by decide) rfl dX10_laysAlike_406 ?_
                refine r_goto (tgt := 15) dX10_laysAlike_409 (by decide) ?_
                exact sl_At.sub [4, 5, 6, 7, 0] rfl H
              · have H := H.2 h28
                refine r_aload_n (k := 3) rfl rfl dX10_laysAlike_320 ?_
                refine r_gI (k := 35) (kz := 35) rfl ckX10 rfl rfl (by decide) rfl rfl fl_X10_267 dX10_laysAlike_321 ?_
                refine r_iload (k := 0) rfl dX10_laysAlike_324 ?_
                refine r_icmp_ne (tgt := 406) (hM23 _ _ _) gy22 dX10_laysAlike_326 (by decide) (fun h30 => ?_) (fun h30 => ?_)
                · have H := H.1 h30
                  obtain ⟨c31, H⟩ := H
                  refine r_iinc (k := 7) (ls' := [(4, vI (x4 + 1)), (9, vI y22), (8, vI y20), (7, vI (M18 1 0 33)), (0, vR 1 0), (1, vI x1), (2, vI x2), (3, vI x3), (5, vI x5), (6, vI x6)]) rfl c31 (by decide) rfl dX10_laysAlike_406 ?_
                  refine r_goto (tgt := 15) dX10_laysAlike_409 (by decide) ?_
                  exact sl_At.sub [4, 5, 6, 7, 0] rfl H
                · have H := H.2 h30
                  refine r_aload_n (k := 3) rfl rfl dX10_laysAlike_329 ?_
                  refine r_getR (k := 46) (o' := 1) (i' := 47) ckX10 rfl rfl (by decide) rfl rfl rfl fl_X10_89 dX10_laysAlike_330 ?_
                  refine r_aload_n (k := 3) rfl rfl dX10_laysAlike_333 ?_
                  refine r_gI (k := 45) (kz := 45) rfl ckX10 rfl rfl (by decide) rfl rfl fl_X10_310 dX10_laysAlike_334 ?_
                  refine r_iload (k := 7) rfl dX10_laysAlike_337 ?_
                  obtain ⟨c32, H⟩ := H
                  refine r_iast rfl rfl rfl c32 g4 dX10_laysAlike_339 ?_
                  refine r_mm (fun M33 e33 => ?_)
                  have H := H M33 e33
                  have hM33 : sl_RM M33 := by rw [e33]; exact sl_wr_RM hM23 g4
                  refine r_aload_n (k := 3) rfl rfl dX10_laysAlike_340 ?_
                  refine r_getR (k := 47) (o' := 1) (i' := 48) ckX10 rfl rfl (by decide) rfl rfl rfl fl_X10_92 dX10_laysAlike_341 ?_
                  refine r_aload_n (k := 3) rfl rfl dX10_laysAlike_344 ?_
                  refine r_gI (k := 45) (kz := 45) rfl ckX10 rfl rfl (by decide) rfl rfl fl_X10_310 dX10_laysAlike_345 ?_
                  refine r_aload_n (k := 3) rfl rfl dX10_laysAlike_348 ?_
                  refine r_getR (k := 19) (o' := 1) (i' := 20) ckX10 rfl rfl (by decide) rfl rfl rfl fl_X10_40 dX10_laysAlike_349 ?_
                  refine r_iload (k := 8) rfl dX10_laysAlike_352 ?_
                  refine r_iald rfl rfl rfl c4 dX10_laysAlike_354 ?_
                  refine r_iconst dX10_laysAlike_355 ?_
                  refine r_isub dX10_laysAlike_356 ?_
                  obtain ⟨c34, H⟩ := H
                  obtain ⟨c35, H⟩ := H
                  refine r_iast rfl rfl rfl c34 c35 dX10_laysAlike_357 ?_
                  refine r_mm (fun M36 e36 => ?_)
                  have H := H M36 e36
                  have hM36 : sl_RM M36 := by rw [e36]; exact sl_wr_RM hM33 c35
                  refine r_iconst dX10_laysAlike_358 ?_
                  refine r_istore (ls' := [(10, vI 0), (9, vI y22), (8, vI y20), (7, vI (M18 1 0 33)), (0, vR 1 0), (1, vI x1), (2, vI x2), (3, vI x3), (4, vI x4), (5, vI x5), (6, vI x6)]) ⟨by decide, by decide⟩ (by decide) rfl dX10_laysAlike_359 ?_
                  exact sl_At.sub [4, 5, 6, 7, 8, 0] rfl H
  · have H := H.2 h1
    refine r_iload (k := 6) rfl dX10_laysAlike_111 ?_
    obtain ⟨K, H⟩ := H
    have J : sl_At l mX10_laysAlike 161 [(0, vR 1 0), (1, vI x1), (2, vI x2), (3, vI x3), (4, vI x4), (5, vI x5), (6, vI x6), (7, vI x7)] [vI (if (¬ (x6 = 0)) ∧ (((x5 ≠ (-1)) ∧ ((M 1 20 x5 ≤ M 1 47 x7) ∨ (¬ (x4 ≤ M 1 48 x7)))) ∨ ((¬ (x5 ≠ (-1))) ∧ ((M 1 20 x4 ≤ M 1 47 x7) ∨ (¬ (x4 ≤ M 1 48 x7))))) then 1 else 0)] M Q := by
      refine r_nm (fun y47 fy47 => ?_)
      have H := H y47 fy47
      have gy47 : sl_rg y47 := by rw [fy47]; exact rg_b
      refine r_istore (ls' := [(6, vI y47), (0, vR 1 0), (1, vI x1), (2, vI x2), (3, vI x3), (4, vI x4), (5, vI x5), (7, vI x7)]) gy47 (by decide) rfl dX10_laysAlike_161 ?_
      obtain ⟨c48, H⟩ := H
      refine r_iinc (k := 7) (ls' := [(7, vI (x7 + 1)), (6, vI y47), (0, vR 1 0), (1, vI x1), (2, vI x2), (3, vI x3), (4, vI x4), (5, vI x5)]) rfl c48 (by decide) rfl dX10_laysAlike_163 ?_
      refine r_goto (tgt := 102) dX10_laysAlike_166 (by decide) ?_
      exact sl_At.sub [2, 3, 4, 5, 6, 7, 1, 0] rfl H
    refine r_if_eq (tgt := 160) g6 dX10_laysAlike_113 (by decide) (fun h41 => ?_) (fun h41 => ?_)
    · refine r_iconst dX10_laysAlike_160 ?_
      rw [if_neg (show ¬ ((¬ (x6 = 0)) ∧ (((x5 ≠ (-1)) ∧ ((M 1 20 x5 ≤ M 1 47 x7) ∨ (¬ (x4 ≤ M 1 48 x7)))) ∨ ((¬ (x5 ≠ (-1))) ∧ ((M 1 20 x4 ≤ M 1 47 x7) ∨ (¬ (x4 ≤ M 1 48 x7)))))) by omega)] at J
      exact J
    · replace K := K h41
      refine r_aload_n (k := 0) rfl rfl dX10_laysAlike_116 ?_
      refine r_getR (k := 19) (o' := 1) (i' := 20) ckX10 rfl rfl (by decide) rfl rfl rfl fl_X10_40 dX10_laysAlike_117 ?_
      refine r_iload (k := 5) rfl dX10_laysAlike_120 ?_
      refine r_iconst dX10_laysAlike_122 ?_
      refine r_icmp_ne (tgt := 131) g5 ⟨by decide, by decide⟩ dX10_laysAlike_123 (by decide) (fun h42 => ?_) (fun h42 => ?_)
      · replace K := K.1 h42
        obtain ⟨c37, K⟩ := K
        have c38 := K
        refine r_iload (k := 5) rfl dX10_laysAlike_131 ?_
        refine r_iald rfl rfl rfl c37 dX10_laysAlike_133 ?_
        refine r_aload_n (k := 0) rfl rfl dX10_laysAlike_134 ?_
        refine r_getR (k := 46) (o' := 1) (i' := 47) ckX10 rfl rfl (by decide) rfl rfl rfl fl_X10_89 dX10_laysAlike_135 ?_
        refine r_iload (k := 7) rfl dX10_laysAlike_138 ?_
        refine r_iald rfl rfl rfl c38 dX10_laysAlike_140 ?_
        refine r_icmp_le (tgt := 156) (hM _ _ _) (hM _ _ _) dX10_laysAlike_141 (by decide) (fun h43 => ?_) (fun h43 => ?_)
        · refine r_iconst dX10_laysAlike_156 ?_
          refine r_goto (tgt := 161) dX10_laysAlike_157 (by decide) ?_
          rw [if_pos (show (¬ (x6 = 0)) ∧ (((x5 ≠ (-1)) ∧ ((M 1 20 x5 ≤ M 1 47 x7) ∨ (¬ (x4 ≤ M 1 48 x7)))) ∨ ((¬ (x5 ≠ (-1))) ∧ ((M 1 20 x4 ≤ M 1 47 x7) ∨ (¬ (x4 ≤ M 1 48 x7))))) by omega)] at J
          exact J
        · refine r_iload (k := 4) rfl dX10_laysAlike_144 ?_
          refine r_aload_n (k := 0) rfl rfl dX10_laysAlike_146 ?_
          refine r_getR (k := 47) (o' := 1) (i' := 48) ckX10 rfl rfl (by decide) rfl rfl rfl fl_X10_92 dX10_laysAlike_147 ?_
          refine r_iload (k := 7) rfl dX10_laysAlike_150 ?_
          refine r_iald rfl rfl rfl c38 dX10_laysAlike_152 ?_
          refine r_icmp_le (tgt := 160) g4 (hM _ _ _) dX10_laysAlike_153 (by decide) (fun h44 => ?_) (fun h44 => ?_)
          · refine r_iconst dX10_laysAlike_160 ?_
            rw [if_neg (show ¬ ((¬ (x6 = 0)) ∧ (((x5 ≠ (-1)) ∧ ((M 1 20 x5 ≤ M 1 47 x7) ∨ (¬ (x4 ≤ M 1 48 x7)))) ∨ ((¬ (x5 ≠ (-1))) ∧ ((M 1 20 x4 ≤ M 1 47 x7) ∨ (¬ (x4 ≤ M 1 48 x7)))))) by omega)] at J
            exact J
          · refine r_iconst dX10_laysAlike_156 ?_
            refine r_goto (tgt := 161) dX10_laysAlike_157 (by decide) ?_
            rw [if_pos (show (¬ (x6 = 0)) ∧ (((x5 ≠ (-1)) ∧ ((M 1 20 x5 ≤ M 1 47 x7) ∨ (¬ (x4 ≤ M 1 48 x7)))) ∨ ((¬ (x5 ≠ (-1))) ∧ ((M 1 20 x4 ≤ M 1 47 x7) ∨ (¬ (x4 ≤ M 1 48 x7))))) by omega)] at J
            exact J
      · replace K := K.2 h42
        obtain ⟨c39, K⟩ := K
        have c40 := K
        refine r_iload (k := 4) rfl dX10_laysAlike_126 ?_
        refine r_goto (tgt := 133) dX10_laysAlike_128 (by decide) ?_
        refine r_iald rfl rfl rfl c39 dX10_laysAlike_133 ?_
        refine r_aload_n (k := 0) rfl rfl dX10_laysAlike_134 ?_
        refine r_getR (k := 46) (o' := 1) (i' := 47) ckX10 rfl rfl (by decide) rfl rfl rfl fl_X10_89 dX10_laysAlike_135 ?_
        refine r_iload (k := 7) rfl dX10_laysAlike_138 ?_
        refine r_iald rfl rfl rfl c40 dX10_laysAlike_140 ?_
        refine r_icmp_le (tgt := 156) (hM _ _ _) (hM _ _ _) dX10_laysAlike_141 (by decide) (fun h45 => ?_) (fun h45 => ?_)
        · refine r_iconst dX10_laysAlike_156 ?_
          refine r_goto (tgt := 161) dX10_laysAlike_157 (by decide) ?_
          rw [if_pos (show (¬ (x6 = 0)) ∧ (((x5 ≠ (-1)) ∧ ((M 1 20 x5 ≤ M 1 47 x7) ∨ (¬ (x4 ≤ M 1 48 x7)))) ∨ ((¬ (x5 ≠ (-1))) ∧ ((M 1 20 x4 ≤ M 1 47 x7) ∨ (¬ (x4 ≤ M 1 48 x7))))) by omega)] at J
          exact J
        · refine r_iload (k := 4) rfl dX10_laysAlike_144 ?_
          refine r_aload_n (k := 0) rfl rfl dX10_laysAlike_146 ?_
          refine r_getR (k := 47) (o' := 1) (i' := 48) ckX10 rfl rfl (by decide) rfl rfl rfl fl_X10_92 dX10_laysAlike_147 ?_
          refine r_iload (k := 7) rfl dX10_laysAlike_150 ?_
          refine r_iald rfl rfl rfl c40 dX10_laysAlike_152 ?_
          refine r_icmp_le (tgt := 160) g4 (hM _ _ _) dX10_laysAlike_153 (by decide) (fun h46 => ?_) (fun h46 => ?_)
          · refine r_iconst dX10_laysAlike_160 ?_
            rw [if_neg (show ¬ ((¬ (x6 = 0)) ∧ (((x5 ≠ (-1)) ∧ ((M 1 20 x5 ≤ M 1 47 x7) ∨ (¬ (x4 ≤ M 1 48 x7)))) ∨ ((¬ (x5 ≠ (-1))) ∧ ((M 1 20 x4 ≤ M 1 47 x7) ∨ (¬ (x4 ≤ M 1 48 x7)))))) by omega)] at J
            exact J
          · refine r_iconst dX10_laysAlike_156 ?_
            refine r_goto (tgt := 161) dX10_laysAlike_157 (by decide) ?_
            rw [if_pos (show (¬ (x6 = 0)) ∧ (((x5 ≠ (-1)) ∧ ((M 1 20 x5 ≤ M 1 47 x7) ∨ (¬ (x4 ≤ M 1 48 x7)))) ∨ ((¬ (x5 ≠ (-1))) ∧ ((M 1 20 x4 ≤ M 1 47 x7) ∨ (¬ (x4 ≤ M 1 48 x7))))) by omega)] at J
            exact J
set_option maxHeartbeats 4000000 in
set_option maxRecDepth 10000 in
theorem vX10_laysAlike_361 {l : Launch} {M : sl_M} {Q : sl_R} {x1 x2 x3 x4 x10 : Int} (H : sl_RM M → sl_rg x1 → sl_rg x2 → sl_rg x3 → sl_rg x4 → sl_rg x10 → ((8 ≤ x10) → (sl_rg (M 1 0 45 + 1)) ∧ (∀ M3, M3 = sl_wr M 1 0 45 (M 1 0 45 + 1) → (sl_rg (x4 + 1)) ∧ sl_At l mX10_laysAlike 15 [(0, vR 1 0), (1, vI x1), (2, vI x2), (3, vI x3), (4, vI (x4 + 1))] [] M3 Q)) ∧ ((¬ (8 ≤ x10)) → (0 ≤ x10 ∧ x10 < 8) ∧ (0 ≤ (8 * (M 1 0 45)) + x10 ∧ (8 * (M 1 0 45)) + x10 < 320) ∧ (∀ M7, M7 = sl_wr M 1 49 ((8 * (M 1 0 45)) + x10) (M 1 50 x10) → (sl_rg (x10 + 1)) ∧ sl_At l mX10_laysAlike 361 [(0, vR 1 0), (1, vI x1), (2, vI x2), (3, vI x3), (4, vI x4), (10, vI (x10 + 1))] [] M7 Q))) : sl_At l mX10_laysAlike 361 [(0, vR 1 0), (1, vI x1), (2, vI x2), (3, vI x3), (4, vI x4), (10, vI x10)] [] M Q := by
  refine sl_At.in (fun hM hls => ?_)
  have g1 : sl_rg x1 := hls _ (List.mem_of_getElem? (i := 1) rfl)
  have g2 : sl_rg x2 := hls _ (List.mem_of_getElem? (i := 2) rfl)
  have g3 : sl_rg x3 := hls _ (List.mem_of_getElem? (i := 3) rfl)
  have g4 : sl_rg x4 := hls _ (List.mem_of_getElem? (i := 4) rfl)
  have g10 : sl_rg x10 := hls _ (List.mem_of_getElem? (i := 5) rfl)
  have H := H hM g1 g2 g3 g4 g10
  refine r_iload (k := 5) rfl dX10_laysAlike_361 ?_
  refine r_bipush dX10_laysAlike_363 (by decide) ?_
  refine r_icmp_ge (tgt := 396) g10 ⟨by decide, by decide⟩ dX10_laysAlike_365 (by decide) (fun h1 => ?_) (fun h1 => ?_)
  · have H := H.1 h1
    refine r_aload_n (k := 0) rfl rfl dX10_laysAlike_396 ?_
    refine r_dup rfl dX10_laysAlike_397 ?_
    refine r_gI (k := 45) (kz := 45) rfl ckX10 rfl rfl (by decide) rfl rfl fl_X10_310 dX10_laysAlike_398 ?_
    refine r_iconst dX10_laysAlike_401 ?_
    refine r_iadd dX10_laysAlike_402 ?_
    obtain ⟨c2, H⟩ := H
    refine r_pI (k := 45) (kz := 45) rfl ckX10 rfl rfl (by decide) rfl rfl rfl rfl fl_X10_310 c2 dX10_laysAlike_403 ?_
    refine r_mm (fun M3 e3 => ?_)
    have H := H M3 e3
    have hM3 : sl_RM M3 := by rw [e3]; exact sl_wr_RM hM c2
    obtain ⟨c4, H⟩ := H
    refine r_iinc (k := 4) (ls' := [(4, vI (x4 + 1)), (0, vR 1 0), (1, vI x1), (2, vI x2), (3, vI x3), (10, vI x10)]) rfl c4 (by decide) rfl dX10_laysAlike_406 ?_
    refine r_goto (tgt := 15) dX10_laysAlike_409 (by decide) ?_
    exact sl_At.sub [1, 2, 3, 4, 0] rfl H
  · have H := H.2 h1
    refine r_aload_n (k := 0) rfl rfl dX10_laysAlike_368 ?_
    refine r_getR (k := 48) (o' := 1) (i' := 49) ckX10 rfl rfl (by decide) rfl rfl rfl fl_X10_95 dX10_laysAlike_369 ?_
    refine r_bipush dX10_laysAlike_372 (by decide) ?_
    refine r_aload_n (k := 0) rfl rfl dX10_laysAlike_374 ?_
    refine r_gI (k := 45) (kz := 45) rfl ckX10 rfl rfl (by decide) rfl rfl fl_X10_310 dX10_laysAlike_375 ?_
    refine r_imul dX10_laysAlike_378 ?_
    refine r_iload (k := 5) rfl dX10_laysAlike_379 ?_
    refine r_iadd dX10_laysAlike_381 ?_
    refine r_aload_n (k := 0) rfl rfl dX10_laysAlike_382 ?_
    refine r_getR (k := 49) (o' := 1) (i' := 50) ckX10 rfl rfl (by decide) rfl rfl rfl fl_X10_98 dX10_laysAlike_383 ?_
    refine r_iload (k := 5) rfl dX10_laysAlike_386 ?_
    obtain ⟨c5, H⟩ := H
    refine r_iald rfl rfl rfl c5 dX10_laysAlike_388 ?_
    obtain ⟨c6, H⟩ := H
    refine r_iast rfl rfl rfl c6 (hM _ _ _) dX10_laysAlike_389 ?_
    refine r_mm (fun M7 e7 => ?_)
    have H := H M7 e7
    have hM7 : sl_RM M7 := by rw [e7]; exact sl_wr_RM hM (hM _ _ _)
    obtain ⟨c8, H⟩ := H
    refine r_iinc (k := 5) (ls' := [(10, vI (x10 + 1)), (0, vR 1 0), (1, vI x1), (2, vI x2), (3, vI x3), (4, vI x4)]) rfl c8 (by decide) rfl dX10_laysAlike_390 ?_
    refine r_goto (tgt := 361) dX10_laysAlike_393 (by decide) ?_
    exact sl_At.sub [1, 2, 3, 4, 5, 0] rfl H
theorem eX10_laysAlike {l : Launch} {M : sl_M} {Q : sl_R} {x1 x2 : Int} (k : sl_At l mX10_laysAlike 0 [(0, vR 1 0), (1, vI x1), (2, vI x2)] [] M Q) : sl_Runs l mX10_laysAlike [vR 1 0, vI x1, vI x2] M Q := sl_Runs.of (ls := [(0, vR 1 0), (1, vI x1), (2, vI x2)]) rfl rfl (fun _ => rfl) (fun _ => Nat.le_of_ble_eq_true rfl) rfl (k)
theorem dX10_alike_0 : decode cX10_alike 0 = .ok (.aload_n 0, 1) := by decide +kernel
theorem dX10_alike_1 : decode cX10_alike 1 = .ok (.invokevirtual 292, 3) := by decide +kernel
theorem dX10_alike_4 : decode cX10_alike 4 = .ok (.iload_n 3, 1) := by decide +kernel
theorem dX10_alike_5 : decode cX10_alike 5 = .ok (.iconst 0, 1) := by decide +kernel
theorem dX10_alike_6 : decode cX10_alike 6 = .ok (.iconst 2, 1) := by decide +kernel
theorem dX10_alike_7 : decode cX10_alike 7 = .ok (.invokestatic 135, 3) := by decide +kernel
theorem dX10_alike_10 : decode cX10_alike 10 = .ok (.ifCond .eq 20, 3) := by decide +kernel
theorem dX10_alike_13 : decode cX10_alike 13 = .ok (.iload 4, 2) := by decide +kernel
theorem dX10_alike_15 : decode cX10_alike 15 = .ok (.ifCond .lt 15, 3) := by decide +kernel
theorem dX10_alike_18 : decode cX10_alike 18 = .ok (.iload_n 3, 1) := by decide +kernel
theorem dX10_alike_19 : decode cX10_alike 19 = .ok (.iconst 2, 1) := by decide +kernel
theorem dX10_alike_20 : decode cX10_alike 20 = .ok (.if_icmp .ne 15, 3) := by decide +kernel
theorem dX10_alike_23 : decode cX10_alike 23 = .ok (.iload 4, 2) := by decide +kernel
theorem dX10_alike_25 : decode cX10_alike 25 = .ok (.bipush 7, 2) := by decide +kernel
theorem dX10_alike_27 : decode cX10_alike 27 = .ok (.if_icmp .le 8, 3) := by decide +kernel
theorem dX10_alike_30 : decode cX10_alike 30 = .ok (.aload_n 0, 1) := by decide +kernel
theorem dX10_alike_31 : decode cX10_alike 31 = .ok (.invokevirtual 139, 3) := by decide +kernel
theorem dX10_alike_34 : decode cX10_alike 34 = .ok (.ireturn, 1) := by decide +kernel
theorem dX10_alike_35 : decode cX10_alike 35 = .ok (.aload_n 0, 1) := by decide +kernel
theorem dX10_alike_36 : decode cX10_alike 36 = .ok (.iload_n 1, 1) := by decide +kernel
theorem dX10_alike_37 : decode cX10_alike 37 = .ok (.iload_n 2, 1) := by decide +kernel
theorem dX10_alike_38 : decode cX10_alike 38 = .ok (.invokevirtual 295, 3) := by decide +kernel
theorem dX10_alike_41 : decode cX10_alike 41 = .ok (.ifCond .ne 8, 3) := by decide +kernel
theorem dX10_alike_44 : decode cX10_alike 44 = .ok (.aload_n 0, 1) := by decide +kernel
theorem dX10_alike_45 : decode cX10_alike 45 = .ok (.invokevirtual 298, 3) := by decide +kernel
theorem dX10_alike_48 : decode cX10_alike 48 = .ok (.ireturn, 1) := by decide +kernel
theorem dX10_alike_49 : decode cX10_alike 49 = .ok (.aload_n 0, 1) := by decide +kernel
theorem dX10_alike_50 : decode cX10_alike 50 = .ok (.iload_n 1, 1) := by decide +kernel
theorem dX10_alike_51 : decode cX10_alike 51 = .ok (.iload_n 2, 1) := by decide +kernel
theorem dX10_alike_52 : decode cX10_alike 52 = .ok (.invokevirtual 328, 3) := by decide +kernel
theorem dX10_alike_55 : decode cX10_alike 55 = .ok (.iload_n 3, 1) := by decide +kernel
theorem dX10_alike_56 : decode cX10_alike 56 = .ok (.ifCond .ne 8, 3) := by decide +kernel
theorem dX10_alike_59 : decode cX10_alike 59 = .ok (.aload_n 0, 1) := by decide +kernel
theorem dX10_alike_60 : decode cX10_alike 60 = .ok (.getfield 310, 3) := by decide +kernel
theorem dX10_alike_63 : decode cX10_alike 63 = .ok (.ireturn, 1) := by decide +kernel
theorem dX10_alike_64 : decode cX10_alike 64 = .ok (.iload_n 3, 1) := by decide +kernel
theorem dX10_alike_65 : decode cX10_alike 65 = .ok (.iconst 1, 1) := by decide +kernel
theorem dX10_alike_66 : decode cX10_alike 66 = .ok (.if_icmp .ne 24, 3) := by decide +kernel
theorem dX10_alike_69 : decode cX10_alike 69 = .ok (.iload 4, 2) := by decide +kernel
theorem dX10_alike_71 : decode cX10_alike 71 = .ok (.aload_n 0, 1) := by decide +kernel
theorem dX10_alike_72 : decode cX10_alike 72 = .ok (.getfield 310, 3) := by decide +kernel
theorem dX10_alike_75 : decode cX10_alike 75 = .ok (.if_icmp .ge 13, 3) := by decide +kernel
theorem dX10_alike_78 : decode cX10_alike 78 = .ok (.aload_n 0, 1) := by decide +kernel
theorem dX10_alike_79 : decode cX10_alike 79 = .ok (.getfield 89, 3) := by decide +kernel
theorem dX10_alike_82 : decode cX10_alike 82 = .ok (.iload 4, 2) := by decide +kernel
theorem dX10_alike_84 : decode cX10_alike 84 = .ok (.iaload, 1) := by decide +kernel
theorem dX10_alike_85 : decode cX10_alike 85 = .ok (.goto 4, 3) := by decide +kernel
theorem dX10_alike_88 : decode cX10_alike 88 = .ok (.iconst (-1), 1) := by decide +kernel
theorem dX10_alike_89 : decode cX10_alike 89 = .ok (.ireturn, 1) := by decide +kernel
theorem dX10_alike_90 : decode cX10_alike 90 = .ok (.aload_n 0, 1) := by decide +kernel
theorem dX10_alike_91 : decode cX10_alike 91 = .ok (.getfield 310, 3) := by decide +kernel
theorem dX10_alike_94 : decode cX10_alike 94 = .ok (.ifCond .ne 7, 3) := by decide +kernel
theorem dX10_alike_97 : decode cX10_alike 97 = .ok (.iconst (-1), 1) := by decide +kernel
theorem dX10_alike_98 : decode cX10_alike 98 = .ok (.goto 10, 3) := by decide +kernel
theorem dX10_alike_101 : decode cX10_alike 101 = .ok (.aload_n 0, 1) := by decide +kernel
theorem dX10_alike_102 : decode cX10_alike 102 = .ok (.getfield 95, 3) := by decide +kernel
theorem dX10_alike_105 : decode cX10_alike 105 = .ok (.iload 4, 2) := by decide +kernel
theorem dX10_alike_107 : decode cX10_alike 107 = .ok (.iaload, 1) := by decide +kernel
theorem dX10_alike_108 : decode cX10_alike 108 = .ok (.ireturn, 1) := by decide +kernel
set_option maxHeartbeats 4000000 in
set_option maxRecDepth 10000 in
theorem vX10_alike_0 {l : Launch} {M : sl_M} {Q : sl_R} {x1 x2 x3 x4 : Int} (H : sl_RM M → sl_rg x1 → sl_rg x2 → sl_rg x3 → sl_rg x4 → sl_RV l mX10_lays [vR 1 0] M (fun M1 => ((¬ (0 ≤ x3 ∧ x3 ≤ 2)) → sl_RI l mX10_bad [vR 1 0] M1 (fun y4 M3 => Q (some (vI y4)) M3)) ∧ ((0 ≤ x3 ∧ x3 ≤ 2) → ((x4 < 0) → sl_RI l mX10_bad [vR 1 0] M1 (fun y7 M6 => Q (some (vI y7)) M6)) ∧ ((¬ (x4 < 0)) → ((x3 ≠ 2) → sl_At l mX10_alike 35 [(0, vR 1 0), (1, vI x1), (2, vI x2), (3, vI x3), (4, vI x4)] [] M1 Q) ∧ ((¬ (x3 ≠ 2)) → ((x4 ≤ 7) → sl_At l mX10_alike 35 [(0, vR 1 0), (1, vI x1), (2, vI x2), (3, vI x3), (4, vI x4)] [] M1 Q) ∧ ((¬ (x4 ≤ 7)) → sl_RI l mX10_bad [vR 1 0] M1 (fun y11 M10 => Q (some (vI y11)) M10))))))) : sl_At l mX10_alike 0 [(0, vR 1 0), (1, vI x1), (2, vI x2), (3, vI x3), (4, vI x4)] [] M Q := by
  refine sl_At.in (fun hM hls => ?_)
  have g1 : sl_rg x1 := hls _ (List.mem_of_getElem? (i := 1) rfl)
  have g2 : sl_rg x2 := hls _ (List.mem_of_getElem? (i := 2) rfl)
  have g3 : sl_rg x3 := hls _ (List.mem_of_getElem? (i := 3) rfl)
  have g4 : sl_rg x4 := hls _ (List.mem_of_getElem? (i := 4) rfl)
  have H := H hM g1 g2 g3 g4
  refine r_aload_n (k := 0) rfl rfl dX10_alike_0 ?_
  refine r_callV (g := mX10_lays) ckX10 rfl rfl rfl rfl mkX10_lays mvX10_lays ml_X10_292 ⟨by decide, by decide⟩ rfl (Nat.le_of_ble_eq_true rfl) rfl ok_n dX10_alike_1 (sl_afterV (sl_RV.mono (fun M1 hM1 H => ?_) H))
  refine r_iload_n (k := 3) rfl rfl dX10_alike_4 ?_
  refine r_iconst dX10_alike_5 ?_
  refine r_iconst dX10_alike_6 ?_
  refine r_callS (g := mX10_in) rfl mkX10_in msX10_in ml_X10_135 ⟨by decide, by decide⟩ rfl (Nat.le_of_ble_eq_true rfl) rfl (ok_i g3 (ok_i ⟨by decide, by decide⟩ (ok_i ⟨by decide, by decide⟩ ok_n))) dX10_alike_7 (sl_afterI (sl_RI.by kX10_in ?_))
  refine r_if_eq (tgt := 30) rg_b dX10_alike_10 (by decide) (fun h2 => ?_) (fun h2 => ?_)
  · have H := H.1 (b_eq0.mp h2)
    refine r_aload_n (k := 0) rfl rfl dX10_alike_30 ?_
    refine r_callV (g := mX10_bad) ckX10 rfl rfl rfl rfl mkX10_bad mvX10_bad ml_X10_139 ⟨by decide, by decide⟩ rfl (Nat.le_of_ble_eq_true rfl) rfl ok_n dX10_alike_31 (sl_afterI (sl_RI.mono (fun y4 M3 gy4 hM3 H => ?_) H))
    refine r_iret rfl gy4 dX10_alike_34 ?_
    exact H
  · have H := H.2 (b_ne0.mp h2)
    refine r_iload (k := 4) rfl dX10_alike_13 ?_
    refine r_if_lt (tgt := 30) g4 dX10_alike_15 (by decide) (fun h5 => ?_) (fun h5 => ?_)
    · have H := H.1 h5
      refine r_aload_n (k := 0) rfl rfl dX10_alike_30 ?_
      refine r_callV (g := mX10_bad) ckX10 rfl rfl rfl rfl mkX10_bad mvX10_bad ml_X10_139 ⟨by decide, by decide⟩ rfl (Nat.le_of_ble_eq_true rfl) rfl ok_n dX10_alike_31 (sl_afterI (sl_RI.mono (fun y7 M6 gy7 hM6 H => ?_) H))
      refine r_iret rfl gy7 dX10_alike_34 ?_
      exact H
    · have H := H.2 h5
      refine r_iload_n (k := 3) rfl rfl dX10_alike_18 ?_
      refine r_iconst dX10_alike_19 ?_
      refine r_icmp_ne (tgt := 35) g3 ⟨by decide, by decide⟩ dX10_alike_20 (by decide) (fun h8 => ?_) (fun h8 => ?_)
      · have H := H.1 h8
        exact H
      · have H := H.2 h8
        refine r_iload (k := 4) rfl dX10_alike_23 ?_
        refine r_bipush dX10_alike_25 (by decide) ?_
        refine r_icmp_le (tgt := 35) g4 ⟨by decide, by decide⟩ dX10_alike_27 (by decide) (fun h9 => ?_) (fun h9 => ?_)
        · have H := H.1 h9
          exact H
        · have H := H.2 h9
          refine r_aload_n (k := 0) rfl rfl dX10_alike_30 ?_
          refine r_callV (g := mX10_bad) ckX10 rfl rfl rfl rfl mkX10_bad mvX10_bad ml_X10_139 ⟨by decide, by decide⟩ rfl (Nat.le_of_ble_eq_true rfl) rfl ok_n dX10_alike_31 (sl_afterI (sl_RI.mono (fun y11 M10 gy11 hM10 H => ?_) H))
          refine r_iret rfl gy11 dX10_alike_34 ?_
          exact H
set_option maxHeartbeats 4000000 in
set_option maxRecDepth 10000 in
theorem vX10_alike_35 {l : Launch} {M : sl_M} {Q : sl_R} {x1 x2 x3 x4 : Int} (H : sl_RM M → sl_rg x1 → sl_rg x2 → sl_rg x3 → sl_rg x4 → sl_RI l mX10_isSpan [vR 1 0, vI x1, vI x2] M (fun y2 M1 => ((y2 ≠ 0) → sl_RV l mX10_laysAlike [vR 1 0, vI x1, vI x2] M1 (fun M4 => ((x3 ≠ 0) → ((x3 ≠ 1) → (((M4 1 0 45 ≠ 0) → (0 ≤ x4 ∧ x4 < 320))) ∧ Q (some (vI (if M4 1 0 45 ≠ 0 then M4 1 49 x4 else (-1)))) M4) ∧ ((¬ (x3 ≠ 1)) → (((¬ (M4 1 0 45 ≤ x4)) → (0 ≤ x4 ∧ x4 < 40))) ∧ Q (some (vI (if M4 1 0 45 ≤ x4 then (-1) else M4 1 47 x4))) M4)) ∧ ((¬ (x3 ≠ 0)) → Q (some (vI (M4 1 0 45))) M4))) ∧ ((¬ (y2 ≠ 0)) → sl_RI l mX10_no [vR 1 0] M1 (fun y12 M11 => Q (some (vI y12)) M11)))) : sl_At l mX10_alike 35 [(0, vR 1 0), (1, vI x1), (2, vI x2), (3, vI x3), (4, vI x4)] [] M Q := by
  refine sl_At.in (fun hM hls => ?_)
  have g1 : sl_rg x1 := hls _ (List.mem_of_getElem? (i := 1) rfl)
  have g2 : sl_rg x2 := hls _ (List.mem_of_getElem? (i := 2) rfl)
  have g3 : sl_rg x3 := hls _ (List.mem_of_getElem? (i := 3) rfl)
  have g4 : sl_rg x4 := hls _ (List.mem_of_getElem? (i := 4) rfl)
  have H := H hM g1 g2 g3 g4
  refine r_aload_n (k := 0) rfl rfl dX10_alike_35 ?_
  refine r_iload_n (k := 1) rfl rfl dX10_alike_36 ?_
  refine r_iload_n (k := 2) rfl rfl dX10_alike_37 ?_
  refine r_callV (g := mX10_isSpan) ckX10 rfl rfl rfl rfl mkX10_isSpan mvX10_isSpan ml_X10_295 ⟨by decide, by decide⟩ rfl (Nat.le_of_ble_eq_true rfl) rfl (ok_i g1 (ok_i g2 ok_n)) dX10_alike_38 (sl_afterI (sl_RI.mono (fun y2 M1 gy2 hM1 H => ?_) H))
  refine r_if_ne (tgt := 49) gy2 dX10_alike_41 (by decide) (fun h3 => ?_) (fun h3 => ?_)
  · have H := H.1 h3
    refine r_aload_n (k := 0) rfl rfl dX10_alike_49 ?_
    refine r_iload_n (k := 1) rfl rfl dX10_alike_50 ?_
    refine r_iload_n (k := 2) rfl rfl dX10_alike_51 ?_
    refine r_callV (g := mX10_laysAlike) ckX10 rfl rfl rfl rfl mkX10_laysAlike mvX10_laysAlike ml_X10_328 ⟨by decide, by decide⟩ rfl (Nat.le_of_ble_eq_true rfl) rfl (ok_i g1 (ok_i g2 ok_n)) dX10_alike_52 (sl_afterV (sl_RV.mono (fun M4 hM4 H => ?_) H))
    refine r_iload_n (k := 3) rfl rfl dX10_alike_55 ?_
    refine r_if_ne (tgt := 64) g3 dX10_alike_56 (by decide) (fun h5 => ?_) (fun h5 => ?_)
    · have H := H.1 h5
      refine r_iload_n (k := 3) rfl rfl dX10_alike_64 ?_
      refine r_iconst dX10_alike_65 ?_
      refine r_icmp_ne (tgt := 90) g3 ⟨by decide, by decide⟩ dX10_alike_66 (by decide) (fun h6 => ?_) (fun h6 => ?_)
      · have H := H.1 h6
        refine r_aload_n (k := 0) rfl rfl dX10_alike_90 ?_
        refine r_gI (k := 45) (kz := 45) rfl ckX10 rfl rfl (by decide) rfl rfl fl_X10_310 dX10_alike_91 ?_
        obtain ⟨K, H⟩ := H
        have J : sl_At l mX10_alike 108 [(0, vR 1 0), (1, vI x1), (2, vI x2), (3, vI x3), (4, vI x4)] [vI (if M4 1 0 45 ≠ 0 then M4 1 49 x4 else (-1))] M4 Q := by
          refine r_iret rfl (sl_rgite (hM4 _ _ _) ⟨by decide, by decide⟩) dX10_alike_108 ?_
          exact H
        refine r_if_ne (tgt := 101) (hM4 _ _ _) dX10_alike_94 (by decide) (fun h8 => ?_) (fun h8 => ?_)
        · replace K := K h8
          have c7 := K
          refine r_aload_n (k := 0) rfl rfl dX10_alike_101 ?_
          refine r_getR (k := 48) (o' := 1) (i' := 49) ckX10 rfl rfl (by decide) rfl rfl rfl fl_X10_95 dX10_alike_102 ?_
          refine r_iload (k := 4) rfl dX10_alike_105 ?_
          refine r_iald rfl rfl rfl c7 dX10_alike_107 ?_
          rw [if_pos h8] at J
          exact J
        · refine r_iconst dX10_alike_97 ?_
          refine r_goto (tgt := 108) dX10_alike_98 (by decide) ?_
          rw [if_neg h8] at J
          exact J
      · have H := H.2 h6
        refine r_iload (k := 4) rfl dX10_alike_69 ?_
        refine r_aload_n (k := 0) rfl rfl dX10_alike_71 ?_
        refine r_gI (k := 45) (kz := 45) rfl ckX10 rfl rfl (by decide) rfl rfl fl_X10_310 dX10_alike_72 ?_
        obtain ⟨K, H⟩ := H
        have J : sl_At l mX10_alike 89 [(0, vR 1 0), (1, vI x1), (2, vI x2), (3, vI x3), (4, vI x4)] [vI (if M4 1 0 45 ≤ x4 then (-1) else M4 1 47 x4)] M4 Q := by
          refine r_iret rfl (sl_rgite ⟨by decide, by decide⟩ (hM4 _ _ _)) dX10_alike_89 ?_
          exact H
        refine r_icmp_ge (tgt := 88) g4 (hM4 _ _ _) dX10_alike_75 (by decide) (fun h10 => ?_) (fun h10 => ?_)
        · refine r_iconst dX10_alike_88 ?_
          rw [if_pos h10] at J
          exact J
        · replace K := K h10
          have c9 := K
          refine r_aload_n (k := 0) rfl rfl dX10_alike_78 ?_
          refine r_getR (k := 46) (o' := 1) (i' := 47) ckX10 rfl rfl (by decide) rfl rfl rfl fl_X10_89 dX10_alike_79 ?_
          refine r_iload (k := 4) rfl dX10_alike_82 ?_
          refine r_iald rfl rfl rfl c9 dX10_alike_84 ?_
          refine r_goto (tgt := 89) dX10_alike_85 (by decide) ?_
          rw [if_neg h10] at J
          exact J
    · have H := H.2 h5
      refine r_aload_n (k := 0) rfl rfl dX10_alike_59 ?_
      refine r_gI (k := 45) (kz := 45) rfl ckX10 rfl rfl (by decide) rfl rfl fl_X10_310 dX10_alike_60 ?_
      refine r_iret rfl (hM4 _ _ _) dX10_alike_63 ?_
      exact H
  · have H := H.2 h3
    refine r_aload_n (k := 0) rfl rfl dX10_alike_44 ?_
    refine r_callV (g := mX10_no) ckX10 rfl rfl rfl rfl mkX10_no mvX10_no ml_X10_298 ⟨by decide, by decide⟩ rfl (Nat.le_of_ble_eq_true rfl) rfl ok_n dX10_alike_45 (sl_afterI (sl_RI.mono (fun y12 M11 gy12 hM11 H => ?_) H))
    refine r_iret rfl gy12 dX10_alike_48 ?_
    exact H
theorem eX10_alike {l : Launch} {M : sl_M} {Q : sl_R} {x1 x2 x3 x4 : Int} (k : sl_At l mX10_alike 0 [(0, vR 1 0), (1, vI x1), (2, vI x2), (3, vI x3), (4, vI x4)] [] M Q) : sl_Runs l mX10_alike [vR 1 0, vI x1, vI x2, vI x3, vI x4] M Q := sl_Runs.of (ls := [(0, vR 1 0), (1, vI x1), (2, vI x2), (3, vI x3), (4, vI x4)]) rfl rfl (fun _ => rfl) (fun _ => Nat.le_of_ble_eq_true rfl) rfl (k)
theorem dX10_calls_0 : decode cX10_calls 0 = .ok (.aload_n 0, 1) := by decide +kernel
theorem dX10_calls_1 : decode cX10_calls 1 = .ok (.getfield 7, 3) := by decide +kernel
theorem dX10_calls_4 : decode cX10_calls 4 = .ok (.sipush 789, 3) := by decide +kernel
theorem dX10_calls_7 : decode cX10_calls 7 = .ok (.iaload, 1) := by decide +kernel
theorem dX10_calls_8 : decode cX10_calls 8 = .ok (.istore 6, 2) := by decide +kernel
theorem dX10_calls_10 : decode cX10_calls 10 = .ok (.aload_n 0, 1) := by decide +kernel
theorem dX10_calls_11 : decode cX10_calls 11 = .ok (.getfield 7, 3) := by decide +kernel
theorem dX10_calls_14 : decode cX10_calls 14 = .ok (.sipush 790, 3) := by decide +kernel
theorem dX10_calls_17 : decode cX10_calls 17 = .ok (.iload 6, 2) := by decide +kernel
theorem dX10_calls_19 : decode cX10_calls 19 = .ok (.iadd, 1) := by decide +kernel
theorem dX10_calls_20 : decode cX10_calls 20 = .ok (.iload_n 1, 1) := by decide +kernel
theorem dX10_calls_21 : decode cX10_calls 21 = .ok (.iastore, 1) := by decide +kernel
theorem dX10_calls_22 : decode cX10_calls 22 = .ok (.aload_n 0, 1) := by decide +kernel
theorem dX10_calls_23 : decode cX10_calls 23 = .ok (.getfield 7, 3) := by decide +kernel
theorem dX10_calls_26 : decode cX10_calls 26 = .ok (.sipush 830, 3) := by decide +kernel
theorem dX10_calls_29 : decode cX10_calls 29 = .ok (.iload 6, 2) := by decide +kernel
theorem dX10_calls_31 : decode cX10_calls 31 = .ok (.iadd, 1) := by decide +kernel
theorem dX10_calls_32 : decode cX10_calls 32 = .ok (.iload_n 2, 1) := by decide +kernel
theorem dX10_calls_33 : decode cX10_calls 33 = .ok (.iastore, 1) := by decide +kernel
theorem dX10_calls_34 : decode cX10_calls 34 = .ok (.aload_n 0, 1) := by decide +kernel
theorem dX10_calls_35 : decode cX10_calls 35 = .ok (.getfield 7, 3) := by decide +kernel
theorem dX10_calls_38 : decode cX10_calls 38 = .ok (.sipush 870, 3) := by decide +kernel
theorem dX10_calls_41 : decode cX10_calls 41 = .ok (.iload 6, 2) := by decide +kernel
theorem dX10_calls_43 : decode cX10_calls 43 = .ok (.iadd, 1) := by decide +kernel
theorem dX10_calls_44 : decode cX10_calls 44 = .ok (.iload_n 3, 1) := by decide +kernel
theorem dX10_calls_45 : decode cX10_calls 45 = .ok (.iastore, 1) := by decide +kernel
theorem dX10_calls_46 : decode cX10_calls 46 = .ok (.aload_n 0, 1) := by decide +kernel
theorem dX10_calls_47 : decode cX10_calls 47 = .ok (.getfield 7, 3) := by decide +kernel
theorem dX10_calls_50 : decode cX10_calls 50 = .ok (.sipush 910, 3) := by decide +kernel
theorem dX10_calls_53 : decode cX10_calls 53 = .ok (.iload 6, 2) := by decide +kernel
theorem dX10_calls_55 : decode cX10_calls 55 = .ok (.iadd, 1) := by decide +kernel
theorem dX10_calls_56 : decode cX10_calls 56 = .ok (.iload 4, 2) := by decide +kernel
theorem dX10_calls_58 : decode cX10_calls 58 = .ok (.iastore, 1) := by decide +kernel
theorem dX10_calls_59 : decode cX10_calls 59 = .ok (.aload_n 0, 1) := by decide +kernel
theorem dX10_calls_60 : decode cX10_calls 60 = .ok (.getfield 7, 3) := by decide +kernel
theorem dX10_calls_63 : decode cX10_calls 63 = .ok (.sipush 950, 3) := by decide +kernel
theorem dX10_calls_66 : decode cX10_calls 66 = .ok (.iload 6, 2) := by decide +kernel
theorem dX10_calls_68 : decode cX10_calls 68 = .ok (.iadd, 1) := by decide +kernel
theorem dX10_calls_69 : decode cX10_calls 69 = .ok (.iload 5, 2) := by decide +kernel
theorem dX10_calls_71 : decode cX10_calls 71 = .ok (.iastore, 1) := by decide +kernel
theorem dX10_calls_72 : decode cX10_calls 72 = .ok (.aload_n 0, 1) := by decide +kernel
theorem dX10_calls_73 : decode cX10_calls 73 = .ok (.getfield 7, 3) := by decide +kernel
theorem dX10_calls_76 : decode cX10_calls 76 = .ok (.sipush 789, 3) := by decide +kernel
theorem dX10_calls_79 : decode cX10_calls 79 = .ok (.dup2, 1) := by decide +kernel
theorem dX10_calls_80 : decode cX10_calls 80 = .ok (.iaload, 1) := by decide +kernel
theorem dX10_calls_81 : decode cX10_calls 81 = .ok (.iconst 1, 1) := by decide +kernel
theorem dX10_calls_82 : decode cX10_calls 82 = .ok (.iadd, 1) := by decide +kernel
theorem dX10_calls_83 : decode cX10_calls 83 = .ok (.iastore, 1) := by decide +kernel
theorem dX10_calls_84 : decode cX10_calls 84 = .ok (.return_, 1) := by decide +kernel
set_option maxHeartbeats 4000000 in
set_option maxRecDepth 10000 in
theorem vX10_calls_0 {l : Launch} {M : sl_M} {Q : sl_R} {x1 x2 x3 x4 x5 : Int} (H : sl_RM M → sl_rg x1 → sl_rg x2 → sl_rg x3 → sl_rg x4 → sl_rg x5 → (0 ≤ 790 + (M 1 1 789) ∧ 790 + (M 1 1 789) < 990) ∧ (∀ M2, M2 = sl_wr M 1 1 (790 + (M 1 1 789)) x1 → (0 ≤ 830 + (M 1 1 789) ∧ 830 + (M 1 1 789) < 990) ∧ (∀ M4, M4 = sl_wr M2 1 1 (830 + (M 1 1 789)) x2 → (0 ≤ 870 + (M 1 1 789) ∧ 870 + (M 1 1 789) < 990) ∧ (∀ M6, M6 = sl_wr M4 1 1 (870 + (M 1 1 789)) x3 → (0 ≤ 910 + (M 1 1 789) ∧ 910 + (M 1 1 789) < 990) ∧ (∀ M8, M8 = sl_wr M6 1 1 (910 + (M 1 1 789)) x4 → (0 ≤ 950 + (M 1 1 789) ∧ 950 + (M 1 1 789) < 990) ∧ (∀ M10, M10 = sl_wr M8 1 1 (950 + (M 1 1 789)) x5 → (sl_rg (M10 1 1 789 + 1)) ∧ (∀ M12, M12 = sl_wr M10 1 1 789 (M10 1 1 789 + 1) → Q none M12))))))) : sl_At l mX10_calls 0 [(0, vR 1 0), (1, vI x1), (2, vI x2), (3, vI x3), (4, vI x4), (5, vI x5)] [] M Q := by
  refine sl_At.in (fun hM hls => ?_)
  have g1 : sl_rg x1 := hls _ (List.mem_of_getElem? (i := 1) rfl)
  have g2 : sl_rg x2 := hls _ (List.mem_of_getElem? (i := 2) rfl)
  have g3 : sl_rg x3 := hls _ (List.mem_of_getElem? (i := 3) rfl)
  have g4 : sl_rg x4 := hls _ (List.mem_of_getElem? (i := 4) rfl)
  have g5 : sl_rg x5 := hls _ (List.mem_of_getElem? (i := 5) rfl)
  have H := H hM g1 g2 g3 g4 g5
  refine r_aload_n (k := 0) rfl rfl dX10_calls_0 ?_
  refine r_getR (k := 0) (o' := 1) (i' := 1) ckX10 rfl rfl (by decide) rfl rfl rfl fl_X10_7 dX10_calls_1 ?_
  refine r_sipush dX10_calls_4 (by decide) ?_
  refine r_iald rfl rfl rfl ⟨by decide, by decide⟩ dX10_calls_7 ?_
  refine r_istore (ls' := [(6, vI (M 1 1 789)), (0, vR 1 0), (1, vI x1), (2, vI x2), (3, vI x3), (4, vI x4), (5, vI x5)]) (hM _ _ _) (by decide) rfl dX10_calls_8 ?_
  refine r_aload_n (k := 1) rfl rfl dX10_calls_10 ?_
  refine r_getR (k := 0) (o' := 1) (i' := 1) ckX10 rfl rfl (by decide) rfl rfl rfl fl_X10_7 dX10_calls_11 ?_
  refine r_sipush dX10_calls_14 (by decide) ?_
  refine r_iload (k := 0) rfl dX10_calls_17 ?_
  refine r_iadd dX10_calls_19 ?_
  refine r_iload_n (k := 2) rfl rfl dX10_calls_20 ?_
  obtain ⟨c1, H⟩ := H
  refine r_iast rfl rfl rfl c1 g1 dX10_calls_21 ?_
  refine r_mm (fun M2 e2 => ?_)
  have H := H M2 e2
  have hM2 : sl_RM M2 := by rw [e2]; exact sl_wr_RM hM g1
  refine r_aload_n (k := 1) rfl rfl dX10_calls_22 ?_
  refine r_getR (k := 0) (o' := 1) (i' := 1) ckX10 rfl rfl (by decide) rfl rfl rfl fl_X10_7 dX10_calls_23 ?_
  refine r_sipush dX10_calls_26 (by decide) ?_
  refine r_iload (k := 0) rfl dX10_calls_29 ?_
  refine r_iadd dX10_calls_31 ?_
  refine r_iload_n (k := 3) rfl rfl dX10_calls_32 ?_
  obtain ⟨c3, H⟩ := H
  refine r_iast rfl rfl rfl c3 g2 dX10_calls_33 ?_
  refine r_mm (fun M4 e4 => ?_)
  have H := H M4 e4
  have hM4 : sl_RM M4 := by rw [e4]; exact sl_wr_RM hM2 g2
  refine r_aload_n (k := 1) rfl rfl dX10_calls_34 ?_
  refine r_getR (k := 0) (o' := 1) (i' := 1) ckX10 rfl rfl (by decide) rfl rfl rfl fl_X10_7 dX10_calls_35 ?_
  refine r_sipush dX10_calls_38 (by decide) ?_
  refine r_iload (k := 0) rfl dX10_calls_41 ?_
  refine r_iadd dX10_calls_43 ?_
  refine r_iload_n (k := 4) rfl rfl dX10_calls_44 ?_
  obtain ⟨c5, H⟩ := H
  refine r_iast rfl rfl rfl c5 g3 dX10_calls_45 ?_
  refine r_mm (fun M6 e6 => ?_)
  have H := H M6 e6
  have hM6 : sl_RM M6 := by rw [e6]; exact sl_wr_RM hM4 g3
  refine r_aload_n (k := 1) rfl rfl dX10_calls_46 ?_
  refine r_getR (k := 0) (o' := 1) (i' := 1) ckX10 rfl rfl (by decide) rfl rfl rfl fl_X10_7 dX10_calls_47 ?_
  refine r_sipush dX10_calls_50 (by decide) ?_
  refine r_iload (k := 0) rfl dX10_calls_53 ?_
  refine r_iadd dX10_calls_55 ?_
  refine r_iload (k := 5) rfl dX10_calls_56 ?_
  obtain ⟨c7, H⟩ := H
  refine r_iast rfl rfl rfl c7 g4 dX10_calls_58 ?_
  refine r_mm (fun M8 e8 => ?_)
  have H := H M8 e8
  have hM8 : sl_RM M8 := by rw [e8]; exact sl_wr_RM hM6 g4
  refine r_aload_n (k := 1) rfl rfl dX10_calls_59 ?_
  refine r_getR (k := 0) (o' := 1) (i' := 1) ckX10 rfl rfl (by decide) rfl rfl rfl fl_X10_7 dX10_calls_60 ?_
  refine r_sipush dX10_calls_63 (by decide) ?_
  refine r_iload (k := 0) rfl dX10_calls_66 ?_
  refine r_iadd dX10_calls_68 ?_
  refine r_iload (k := 6) rfl dX10_calls_69 ?_
  obtain ⟨c9, H⟩ := H
  refine r_iast rfl rfl rfl c9 g5 dX10_calls_71 ?_
  refine r_mm (fun M10 e10 => ?_)
  have H := H M10 e10
  have hM10 : sl_RM M10 := by rw [e10]; exact sl_wr_RM hM8 g5
  refine r_aload_n (k := 1) rfl rfl dX10_calls_72 ?_
  refine r_getR (k := 0) (o' := 1) (i' := 1) ckX10 rfl rfl (by decide) rfl rfl rfl fl_X10_7 dX10_calls_73 ?_
  refine r_sipush dX10_calls_76 (by decide) ?_
  refine r_dup2 rfl rfl dX10_calls_79 ?_
  refine r_iald rfl rfl rfl ⟨by decide, by decide⟩ dX10_calls_80 ?_
  refine r_iconst dX10_calls_81 ?_
  refine r_iadd dX10_calls_82 ?_
  obtain ⟨c11, H⟩ := H
  refine r_iast rfl rfl rfl ⟨by decide, by decide⟩ c11 dX10_calls_83 ?_
  refine r_mm (fun M12 e12 => ?_)
  have H := H M12 e12
  have hM12 : sl_RM M12 := by rw [e12]; exact sl_wr_RM hM10 c11
  refine r_vret rfl dX10_calls_84 ?_
  exact H
theorem eX10_calls {l : Launch} {M : sl_M} {Q : sl_R} {x1 x2 x3 x4 x5 : Int} (k : sl_At l mX10_calls 0 [(0, vR 1 0), (1, vI x1), (2, vI x2), (3, vI x3), (4, vI x4), (5, vI x5)] [] M Q) : sl_Runs l mX10_calls [vR 1 0, vI x1, vI x2, vI x3, vI x4, vI x5] M Q := sl_Runs.of (ls := [(0, vR 1 0), (1, vI x1), (2, vI x2), (3, vI x3), (4, vI x4), (5, vI x5)]) rfl rfl (fun _ => rfl) (fun _ => Nat.le_of_ble_eq_true rfl) rfl (k)
theorem dX10_answeredList_0 : decode cX10_answeredList 0 = .ok (.iload_n 1, 1) := by decide +kernel
theorem dX10_answeredList_1 : decode cX10_answeredList 1 = .ok (.bipush 16, 2) := by decide +kernel
theorem dX10_answeredList_3 : decode cX10_answeredList 3 = .ok (.irem, 1) := by decide +kernel
theorem dX10_answeredList_4 : decode cX10_answeredList 4 = .ok (.istore_n 3, 1) := by decide +kernel
theorem dX10_answeredList_5 : decode cX10_answeredList 5 = .ok (.iconst 0, 1) := by decide +kernel
theorem dX10_answeredList_6 : decode cX10_answeredList 6 = .ok (.istore 4, 2) := by decide +kernel
theorem dX10_answeredList_8 : decode cX10_answeredList 8 = .ok (.iload 4, 2) := by decide +kernel
theorem dX10_answeredList_10 : decode cX10_answeredList 10 = .ok (.iload_n 1, 1) := by decide +kernel
theorem dX10_answeredList_11 : decode cX10_answeredList 11 = .ok (.bipush 16, 2) := by decide +kernel
theorem dX10_answeredList_13 : decode cX10_answeredList 13 = .ok (.irem, 1) := by decide +kernel
theorem dX10_answeredList_14 : decode cX10_answeredList 14 = .ok (.if_icmp .ge 40, 3) := by decide +kernel
theorem dX10_answeredList_17 : decode cX10_answeredList 17 = .ok (.iload_n 3, 1) := by decide +kernel
theorem dX10_answeredList_18 : decode cX10_answeredList 18 = .ok (.aload_n 0, 1) := by decide +kernel
theorem dX10_answeredList_19 : decode cX10_answeredList 19 = .ok (.getfield 95, 3) := by decide +kernel
theorem dX10_answeredList_22 : decode cX10_answeredList 22 = .ok (.bipush 8, 2) := by decide +kernel
theorem dX10_answeredList_24 : decode cX10_answeredList 24 = .ok (.iload_n 2, 1) := by decide +kernel
theorem dX10_answeredList_25 : decode cX10_answeredList 25 = .ok (.imul, 1) := by decide +kernel
theorem dX10_answeredList_26 : decode cX10_answeredList 26 = .ok (.iload_n 1, 1) := by decide +kernel
theorem dX10_answeredList_27 : decode cX10_answeredList 27 = .ok (.iconst 4, 1) := by decide +kernel
theorem dX10_answeredList_28 : decode cX10_answeredList 28 = .ok (.iconst 4, 1) := by decide +kernel
theorem dX10_answeredList_29 : decode cX10_answeredList 29 = .ok (.iload 4, 2) := by decide +kernel
theorem dX10_answeredList_31 : decode cX10_answeredList 31 = .ok (.imul, 1) := by decide +kernel
theorem dX10_answeredList_32 : decode cX10_answeredList 32 = .ok (.iadd, 1) := by decide +kernel
theorem dX10_answeredList_33 : decode cX10_answeredList 33 = .ok (.ishr, 1) := by decide +kernel
theorem dX10_answeredList_34 : decode cX10_answeredList 34 = .ok (.bipush 15, 2) := by decide +kernel
theorem dX10_answeredList_36 : decode cX10_answeredList 36 = .ok (.iand, 1) := by decide +kernel
theorem dX10_answeredList_37 : decode cX10_answeredList 37 = .ok (.iadd, 1) := by decide +kernel
theorem dX10_answeredList_38 : decode cX10_answeredList 38 = .ok (.iaload, 1) := by decide +kernel
theorem dX10_answeredList_39 : decode cX10_answeredList 39 = .ok (.iconst 4, 1) := by decide +kernel
theorem dX10_answeredList_40 : decode cX10_answeredList 40 = .ok (.iconst 4, 1) := by decide +kernel
theorem dX10_answeredList_41 : decode cX10_answeredList 41 = .ok (.iload 4, 2) := by decide +kernel
theorem dX10_answeredList_43 : decode cX10_answeredList 43 = .ok (.imul, 1) := by decide +kernel
theorem dX10_answeredList_44 : decode cX10_answeredList 44 = .ok (.iadd, 1) := by decide +kernel
theorem dX10_answeredList_45 : decode cX10_answeredList 45 = .ok (.ishl, 1) := by decide +kernel
theorem dX10_answeredList_46 : decode cX10_answeredList 46 = .ok (.ior, 1) := by decide +kernel
theorem dX10_answeredList_47 : decode cX10_answeredList 47 = .ok (.istore_n 3, 1) := by decide +kernel
theorem dX10_answeredList_48 : decode cX10_answeredList 48 = .ok (.iinc 4 1, 3) := by decide +kernel
theorem dX10_answeredList_51 : decode cX10_answeredList 51 = .ok (.goto (-43), 3) := by decide +kernel
theorem dX10_answeredList_54 : decode cX10_answeredList 54 = .ok (.iload_n 3, 1) := by decide +kernel
theorem dX10_answeredList_55 : decode cX10_answeredList 55 = .ok (.ireturn, 1) := by decide +kernel
set_option maxHeartbeats 4000000 in
set_option maxRecDepth 10000 in
theorem vX10_answeredList_0 {l : Launch} {M : sl_M} {Q : sl_R} {x1 x2 : Int} (H : sl_RM M → sl_rg x1 → sl_rg x2 → (∀ y1 : Int, y1 = irem x1 16 → sl_At l mX10_answeredList 8 [(0, vR 1 0), (1, vI x1), (2, vI x2), (3, vI y1), (4, vI 0)] [] M Q)) : sl_At l mX10_answeredList 0 [(0, vR 1 0), (1, vI x1), (2, vI x2)] [] M Q := by
  refine sl_At.in (fun hM hls => ?_)
  have g1 : sl_rg x1 := hls _ (List.mem_of_getElem? (i := 1) rfl)
  have g2 : sl_rg x2 := hls _ (List.mem_of_getElem? (i := 2) rfl)
  have H := H hM g1 g2
  refine r_iload_n (k := 1) rfl rfl dX10_answeredList_0 ?_
  refine r_bipush dX10_answeredList_1 (by decide) ?_
  refine r_irem ⟨by decide, by decide⟩ (by decide) dX10_answeredList_3 ?_
  refine r_nm (fun y1 fy1 => ?_)
  have H := H y1 fy1
  have gy1 : sl_rg y1 := by rw [fy1]; exact (rg_irem _ _)
  refine r_istore_n (ls' := [(3, vI y1), (0, vR 1 0), (1, vI x1), (2, vI x2)]) gy1 rfl (by decide) rfl dX10_answeredList_4 ?_
  refine r_iconst dX10_answeredList_5 ?_
  refine r_istore (ls' := [(4, vI 0), (3, vI y1), (0, vR 1 0), (1, vI x1), (2, vI x2)]) ⟨by decide, by decide⟩ (by decide) rfl dX10_answeredList_6 ?_
  exact sl_At.sub [2, 3, 4, 1, 0] rfl H
set_option maxHeartbeats 4000000 in
set_option maxRecDepth 10000 in
theorem vX10_answeredList_8 {l : Launch} {M : sl_M} {Q : sl_R} {x1 x2 x3 x4 : Int} (H : sl_RM M → sl_rg x1 → sl_rg x2 → sl_rg x3 → sl_rg x4 → ((irem x1 16 ≤ x4) → Q (some (vI x3)) M) ∧ ((¬ (irem x1 16 ≤ x4)) → (0 ≤ (8 * x2) + (iand (ishr x1 (4 + (4 * x4))) 15) ∧ (8 * x2) + (iand (ishr x1 (4 + (4 * x4))) 15) < 320) ∧ (∀ y3 : Int, y3 = ior x3 (ishl (M 1 49 ((8 * x2) + (iand (ishr x1 (4 + (4 * x4))) 15))) (4 + (4 * x4))) → (sl_rg (x4 + 1)) ∧ sl_At l mX10_answeredList 8 [(0, vR 1 0), (1, vI x1), (2, vI x2), (3, vI y3), (4, vI (x4 + 1))] [] M Q))) : sl_At l mX10_answeredList 8 [(0, vR 1 0), (1, vI x1), (2, vI x2), (3, vI x3), (4, vI x4)] [] M Q := by
  refine sl_At.in (fun hM hls => ?_)
  have g1 : sl_rg x1 := hls _ (List.mem_of_getElem? (i := 1) rfl)
  have g2 : sl_rg x2 := hls _ (List.mem_of_getElem? (i := 2) rfl)
  have g3 : sl_rg x3 := hls _ (List.mem_of_getElem? (i := 3) rfl)
  have g4 : sl_rg x4 := hls _ (List.mem_of_getElem? (i := 4) rfl)
  have H := H hM g1 g2 g3 g4
  refine r_iload (k := 4) rfl dX10_answeredList_8 ?_
  refine r_iload_n (k := 1) rfl rfl dX10_answeredList_10 ?_
  refine r_bipush dX10_answeredList_11 (by decide) ?_
  refine r_irem ⟨by decide, by decide⟩ (by decide) dX10_answeredList_13 ?_
  refine r_icmp_ge (tgt := 54) g4 (rg_irem _ _) dX10_answeredList_14 (by decide) (fun h1 => ?_) (fun h1 => ?_)
  · have H := H.1 h1
    refine r_iload_n (k := 3) rfl rfl dX10_answeredList_54 ?_
    refine r_iret rfl g3 dX10_answeredList_55 ?_
    exact H
  · have H := H.2 h1
    refine r_iload_n (k := 3) rfl rfl dX10_answeredList_17 ?_
    refine r_aload_n (k := 0) rfl rfl dX10_answeredList_18 ?_
    refine r_getR (k := 48) (o' := 1) (i' := 49) ckX10 rfl rfl (by decide) rfl rfl rfl fl_X10_95 dX10_answeredList_19 ?_
    refine r_bipush dX10_answeredList_22 (by decide) ?_
    refine r_iload_n (k := 2) rfl rfl dX10_answeredList_24 ?_
    refine r_imul dX10_answeredList_25 ?_
    refine r_iload_n (k := 1) rfl rfl dX10_answeredList_26 ?_
    refine r_iconst dX10_answeredList_27 ?_
    refine r_iconst dX10_answeredList_28 ?_
    refine r_iload (k := 4) rfl dX10_answeredList_29 ?_
    refine r_imul dX10_answeredList_31 ?_
    refine r_iadd dX10_answeredList_32 ?_
    refine r_ishr dX10_answeredList_33 ?_
    refine r_bipush dX10_answeredList_34 (by decide) ?_
    refine r_iand dX10_answeredList_36 ?_
    refine r_iadd dX10_answeredList_37 ?_
    obtain ⟨c2, H⟩ := H
    refine r_iald rfl rfl rfl c2 dX10_answeredList_38 ?_
    refine r_iconst dX10_answeredList_39 ?_
    refine r_iconst dX10_answeredList_40 ?_
    refine r_iload (k := 4) rfl dX10_answeredList_41 ?_
    refine r_imul dX10_answeredList_43 ?_
    refine r_iadd dX10_answeredList_44 ?_
    refine r_ishl dX10_answeredList_45 ?_
    refine r_ior dX10_answeredList_46 ?_
    refine r_nm (fun y3 fy3 => ?_)
    have H := H y3 fy3
    have gy3 : sl_rg y3 := by rw [fy3]; exact (rg_ior _ _)
    refine r_istore_n (ls' := [(3, vI y3), (0, vR 1 0), (1, vI x1), (2, vI x2), (4, vI x4)]) gy3 rfl (by decide) rfl dX10_answeredList_47 ?_
    obtain ⟨c4, H⟩ := H
    refine r_iinc (k := 4) (ls' := [(4, vI (x4 + 1)), (3, vI y3), (0, vR 1 0), (1, vI x1), (2, vI x2)]) rfl c4 (by decide) rfl dX10_answeredList_48 ?_
    refine r_goto (tgt := 8) dX10_answeredList_51 (by decide) ?_
    exact sl_At.sub [2, 3, 4, 1, 0] rfl H
theorem eX10_answeredList {l : Launch} {M : sl_M} {Q : sl_R} {x1 x2 : Int} (k : sl_At l mX10_answeredList 0 [(0, vR 1 0), (1, vI x1), (2, vI x2)] [] M Q) : sl_Runs l mX10_answeredList [vR 1 0, vI x1, vI x2] M Q := sl_Runs.of (ls := [(0, vR 1 0), (1, vI x1), (2, vI x2)]) rfl rfl (fun _ => rfl) (fun _ => Nat.le_of_ble_eq_true rfl) rfl (k)
theorem dX10_lastTold_0 : decode cX10_lastTold 0 = .ok (.aload_n 0, 1) := by decide +kernel
theorem dX10_lastTold_1 : decode cX10_lastTold 1 = .ok (.getfield 89, 3) := by decide +kernel
theorem dX10_lastTold_4 : decode cX10_lastTold 4 = .ok (.iload_n 1, 1) := by decide +kernel
theorem dX10_lastTold_5 : decode cX10_lastTold 5 = .ok (.iaload, 1) := by decide +kernel
theorem dX10_lastTold_6 : decode cX10_lastTold 6 = .ok (.istore_n 2, 1) := by decide +kernel
theorem dX10_lastTold_7 : decode cX10_lastTold 7 = .ok (.aload_n 0, 1) := by decide +kernel
theorem dX10_lastTold_8 : decode cX10_lastTold 8 = .ok (.getfield 40, 3) := by decide +kernel
theorem dX10_lastTold_11 : decode cX10_lastTold 11 = .ok (.iload_n 2, 1) := by decide +kernel
theorem dX10_lastTold_12 : decode cX10_lastTold 12 = .ok (.iaload, 1) := by decide +kernel
theorem dX10_lastTold_13 : decode cX10_lastTold 13 = .ok (.aload_n 0, 1) := by decide +kernel
theorem dX10_lastTold_14 : decode cX10_lastTold 14 = .ok (.getfield 92, 3) := by decide +kernel
theorem dX10_lastTold_17 : decode cX10_lastTold 17 = .ok (.iload_n 1, 1) := by decide +kernel
theorem dX10_lastTold_18 : decode cX10_lastTold 18 = .ok (.iaload, 1) := by decide +kernel
theorem dX10_lastTold_19 : decode cX10_lastTold 19 = .ok (.if_icmp .gt 13, 3) := by decide +kernel
theorem dX10_lastTold_22 : decode cX10_lastTold 22 = .ok (.aload_n 0, 1) := by decide +kernel
theorem dX10_lastTold_23 : decode cX10_lastTold 23 = .ok (.getfield 40, 3) := by decide +kernel
theorem dX10_lastTold_26 : decode cX10_lastTold 26 = .ok (.iload_n 2, 1) := by decide +kernel
theorem dX10_lastTold_27 : decode cX10_lastTold 27 = .ok (.iaload, 1) := by decide +kernel
theorem dX10_lastTold_28 : decode cX10_lastTold 28 = .ok (.istore_n 2, 1) := by decide +kernel
theorem dX10_lastTold_29 : decode cX10_lastTold 29 = .ok (.goto (-22), 3) := by decide +kernel
theorem dX10_lastTold_32 : decode cX10_lastTold 32 = .ok (.aload_n 0, 1) := by decide +kernel
theorem dX10_lastTold_33 : decode cX10_lastTold 33 = .ok (.getfield 43, 3) := by decide +kernel
theorem dX10_lastTold_36 : decode cX10_lastTold 36 = .ok (.iload_n 2, 1) := by decide +kernel
theorem dX10_lastTold_37 : decode cX10_lastTold 37 = .ok (.iaload, 1) := by decide +kernel
theorem dX10_lastTold_38 : decode cX10_lastTold 38 = .ok (.ireturn, 1) := by decide +kernel
set_option maxHeartbeats 4000000 in
set_option maxRecDepth 10000 in
theorem vX10_lastTold_0 {l : Launch} {M : sl_M} {Q : sl_R} {x1 : Int} (H : sl_RM M → sl_rg x1 → (0 ≤ x1 ∧ x1 < 40) ∧ sl_At l mX10_lastTold 7 [(0, vR 1 0), (1, vI x1), (2, vI (M 1 47 x1))] [] M Q) : sl_At l mX10_lastTold 0 [(0, vR 1 0), (1, vI x1)] [] M Q := by
  refine sl_At.in (fun hM hls => ?_)
  have g1 : sl_rg x1 := hls _ (List.mem_of_getElem? (i := 1) rfl)
  have H := H hM g1
  refine r_aload_n (k := 0) rfl rfl dX10_lastTold_0 ?_
  refine r_getR (k := 46) (o' := 1) (i' := 47) ckX10 rfl rfl (by decide) rfl rfl rfl fl_X10_89 dX10_lastTold_1 ?_
  refine r_iload_n (k := 1) rfl rfl dX10_lastTold_4 ?_
  obtain ⟨c1, H⟩ := H
  refine r_iald rfl rfl rfl c1 dX10_lastTold_5 ?_
  refine r_istore_n (ls' := [(2, vI (M 1 47 x1)), (0, vR 1 0), (1, vI x1)]) (hM _ _ _) rfl (by decide) rfl dX10_lastTold_6 ?_
  exact sl_At.sub [1, 2, 0] rfl H
set_option maxHeartbeats 4000000 in
set_option maxRecDepth 10000 in
theorem vX10_lastTold_7 {l : Launch} {M : sl_M} {Q : sl_R} {x1 x2 : Int} (H : sl_RM M → sl_rg x1 → sl_rg x2 → (0 ≤ x2 ∧ x2 < 82) ∧ (0 ≤ x1 ∧ x1 < 40) ∧ ((M 1 48 x1 < M 1 20 x2) → Q (some (vI (M 1 21 x2))) M) ∧ ((¬ (M 1 48 x1 < M 1 20 x2)) → sl_At l mX10_lastTold 7 [(0, vR 1 0), (1, vI x1), (2, vI (M 1 20 x2))] [] M Q)) : sl_At l mX10_lastTold 7 [(0, vR 1 0), (1, vI x1), (2, vI x2)] [] M Q := by
  refine sl_At.in (fun hM hls => ?_)
  have g1 : sl_rg x1 := hls _ (List.mem_of_getElem? (i := 1) rfl)
  have g2 : sl_rg x2 := hls _ (List.mem_of_getElem? (i := 2) rfl)
  have H := H hM g1 g2
  refine r_aload_n (k := 0) rfl rfl dX10_lastTold_7 ?_
  refine r_getR (k := 19) (o' := 1) (i' := 20) ckX10 rfl rfl (by decide) rfl rfl rfl fl_X10_40 dX10_lastTold_8 ?_
  refine r_iload_n (k := 2) rfl rfl dX10_lastTold_11 ?_
  obtain ⟨c1, H⟩ := H
  refine r_iald rfl rfl rfl c1 dX10_lastTold_12 ?_
  refine r_aload_n (k := 0) rfl rfl dX10_lastTold_13 ?_
  refine r_getR (k := 47) (o' := 1) (i' := 48) ckX10 rfl rfl (by decide) rfl rfl rfl fl_X10_92 dX10_lastTold_14 ?_
  refine r_iload_n (k := 1) rfl rfl dX10_lastTold_17 ?_
  obtain ⟨c2, H⟩ := H
  refine r_iald rfl rfl rfl c2 dX10_lastTold_18 ?_
  refine r_icmp_gt (tgt := 32) (hM _ _ _) (hM _ _ _) dX10_lastTold_19 (by decide) (fun h3 => ?_) (fun h3 => ?_)
  · have H := H.1 h3
    refine r_aload_n (k := 0) rfl rfl dX10_lastTold_32 ?_
    refine r_getR (k := 20) (o' := 1) (i' := 21) ckX10 rfl rfl (by decide) rfl rfl rfl fl_X10_43 dX10_lastTold_33 ?_
    refine r_iload_n (k := 2) rfl rfl dX10_lastTold_36 ?_
    refine r_iald rfl rfl rfl c1 dX10_lastTold_37 ?_
    refine r_iret rfl (hM _ _ _) dX10_lastTold_38 ?_
    exact H
  · have H := H.2 h3
    refine r_aload_n (k := 0) rfl rfl dX10_lastTold_22 ?_
    refine r_getR (k := 19) (o' := 1) (i' := 20) ckX10 rfl rfl (by decide) rfl rfl rfl fl_X10_40 dX10_lastTold_23 ?_
    refine r_iload_n (k := 2) rfl rfl dX10_lastTold_26 ?_
    refine r_iald rfl rfl rfl c1 dX10_lastTold_27 ?_
    refine r_istore_n (ls' := [(2, vI (M 1 20 x2)), (0, vR 1 0), (1, vI x1)]) (hM _ _ _) rfl (by decide) rfl dX10_lastTold_28 ?_
    refine r_goto (tgt := 7) dX10_lastTold_29 (by decide) ?_
    exact sl_At.sub [1, 2, 0] rfl H
theorem eX10_lastTold {l : Launch} {M : sl_M} {Q : sl_R} {x1 : Int} (k : sl_At l mX10_lastTold 0 [(0, vR 1 0), (1, vI x1)] [] M Q) : sl_Runs l mX10_lastTold [vR 1 0, vI x1] M Q := sl_Runs.of (ls := [(0, vR 1 0), (1, vI x1)]) rfl rfl (fun _ => rfl) (fun _ => Nat.le_of_ble_eq_true rfl) rfl (k)
theorem dX10_lifts_0 : decode cX10_lifts 0 = .ok (.aload_n 0, 1) := by decide +kernel
theorem dX10_lifts_1 : decode cX10_lifts 1 = .ok (.invokevirtual 292, 3) := by decide +kernel
theorem dX10_lifts_4 : decode cX10_lifts 4 = .ok (.iload_n 3, 1) := by decide +kernel
theorem dX10_lifts_5 : decode cX10_lifts 5 = .ok (.iconst 0, 1) := by decide +kernel
theorem dX10_lifts_6 : decode cX10_lifts 6 = .ok (.iconst 1, 1) := by decide +kernel
theorem dX10_lifts_7 : decode cX10_lifts 7 = .ok (.invokestatic 135, 3) := by decide +kernel
theorem dX10_lifts_10 : decode cX10_lifts 10 = .ok (.ifCond .ne 8, 3) := by decide +kernel
theorem dX10_lifts_13 : decode cX10_lifts 13 = .ok (.aload_n 0, 1) := by decide +kernel
theorem dX10_lifts_14 : decode cX10_lifts 14 = .ok (.invokevirtual 139, 3) := by decide +kernel
theorem dX10_lifts_17 : decode cX10_lifts 17 = .ok (.ireturn, 1) := by decide +kernel
theorem dX10_lifts_18 : decode cX10_lifts 18 = .ok (.aload_n 0, 1) := by decide +kernel
theorem dX10_lifts_19 : decode cX10_lifts 19 = .ok (.iload_n 1, 1) := by decide +kernel
theorem dX10_lifts_20 : decode cX10_lifts 20 = .ok (.iload_n 2, 1) := by decide +kernel
theorem dX10_lifts_21 : decode cX10_lifts 21 = .ok (.invokevirtual 295, 3) := by decide +kernel
theorem dX10_lifts_24 : decode cX10_lifts 24 = .ok (.ifCond .ne 8, 3) := by decide +kernel
theorem dX10_lifts_27 : decode cX10_lifts 27 = .ok (.aload_n 0, 1) := by decide +kernel
theorem dX10_lifts_28 : decode cX10_lifts 28 = .ok (.invokevirtual 298, 3) := by decide +kernel
theorem dX10_lifts_31 : decode cX10_lifts 31 = .ok (.ireturn, 1) := by decide +kernel
theorem dX10_lifts_32 : decode cX10_lifts 32 = .ok (.aload_n 0, 1) := by decide +kernel
theorem dX10_lifts_33 : decode cX10_lifts 33 = .ok (.iload_n 1, 1) := by decide +kernel
theorem dX10_lifts_34 : decode cX10_lifts 34 = .ok (.iload_n 2, 1) := by decide +kernel
theorem dX10_lifts_35 : decode cX10_lifts 35 = .ok (.invokevirtual 328, 3) := by decide +kernel
theorem dX10_lifts_38 : decode cX10_lifts 38 = .ok (.aload_n 0, 1) := by decide +kernel
theorem dX10_lifts_39 : decode cX10_lifts 39 = .ok (.getfield 273, 3) := by decide +kernel
theorem dX10_lifts_42 : decode cX10_lifts 42 = .ok (.ifCond .eq 8, 3) := by decide +kernel
theorem dX10_lifts_45 : decode cX10_lifts 45 = .ok (.aload_n 0, 1) := by decide +kernel
theorem dX10_lifts_46 : decode cX10_lifts 46 = .ok (.invokevirtual 298, 3) := by decide +kernel
theorem dX10_lifts_49 : decode cX10_lifts 49 = .ok (.ireturn, 1) := by decide +kernel
theorem dX10_lifts_50 : decode cX10_lifts 50 = .ok (.aload_n 0, 1) := by decide +kernel
theorem dX10_lifts_51 : decode cX10_lifts 51 = .ok (.getfield 7, 3) := by decide +kernel
theorem dX10_lifts_54 : decode cX10_lifts 54 = .ok (.sipush 761, 3) := by decide +kernel
theorem dX10_lifts_57 : decode cX10_lifts 57 = .ok (.iaload, 1) := by decide +kernel
theorem dX10_lifts_58 : decode cX10_lifts 58 = .ok (.iconst 3, 1) := by decide +kernel
theorem dX10_lifts_59 : decode cX10_lifts 59 = .ok (.if_icmp .ne 8, 3) := by decide +kernel
theorem dX10_lifts_62 : decode cX10_lifts 62 = .ok (.aload_n 0, 1) := by decide +kernel
theorem dX10_lifts_63 : decode cX10_lifts 63 = .ok (.invokevirtual 146, 3) := by decide +kernel
theorem dX10_lifts_66 : decode cX10_lifts 66 = .ok (.ireturn, 1) := by decide +kernel
theorem dX10_lifts_67 : decode cX10_lifts 67 = .ok (.aload_n 0, 1) := by decide +kernel
theorem dX10_lifts_68 : decode cX10_lifts 68 = .ok (.invokevirtual 189, 3) := by decide +kernel
theorem dX10_lifts_71 : decode cX10_lifts 71 = .ok (.aload_n 0, 1) := by decide +kernel
theorem dX10_lifts_72 : decode cX10_lifts 72 = .ok (.getfield 7, 3) := by decide +kernel
theorem dX10_lifts_75 : decode cX10_lifts 75 = .ok (.sipush 761, 3) := by decide +kernel
theorem dX10_lifts_78 : decode cX10_lifts 78 = .ok (.iaload, 1) := by decide +kernel
theorem dX10_lifts_79 : decode cX10_lifts 79 = .ok (.istore 4, 2) := by decide +kernel
theorem dX10_lifts_81 : decode cX10_lifts 81 = .ok (.aload_n 0, 1) := by decide +kernel
theorem dX10_lifts_82 : decode cX10_lifts 82 = .ok (.aload_n 0, 1) := by decide +kernel
theorem dX10_lifts_83 : decode cX10_lifts 83 = .ok (.getfield 261, 3) := by decide +kernel
theorem dX10_lifts_86 : decode cX10_lifts 86 = .ok (.iconst 0, 1) := by decide +kernel
theorem dX10_lifts_87 : decode cX10_lifts 87 = .ok (.invokevirtual 304, 3) := by decide +kernel
theorem dX10_lifts_90 : decode cX10_lifts 90 = .ok (.pop, 1) := by decide +kernel
theorem dX10_lifts_91 : decode cX10_lifts 91 = .ok (.aload_n 0, 1) := by decide +kernel
theorem dX10_lifts_92 : decode cX10_lifts 92 = .ok (.getfield 7, 3) := by decide +kernel
theorem dX10_lifts_95 : decode cX10_lifts 95 = .ok (.sipush 771, 3) := by decide +kernel
theorem dX10_lifts_98 : decode cX10_lifts 98 = .ok (.iload 4, 2) := by decide +kernel
theorem dX10_lifts_100 : decode cX10_lifts 100 = .ok (.iadd, 1) := by decide +kernel
theorem dX10_lifts_101 : decode cX10_lifts 101 = .ok (.aload_n 0, 1) := by decide +kernel
theorem dX10_lifts_102 : decode cX10_lifts 102 = .ok (.getfield 279, 3) := by decide +kernel
theorem dX10_lifts_105 : decode cX10_lifts 105 = .ok (.iastore, 1) := by decide +kernel
theorem dX10_lifts_106 : decode cX10_lifts 106 = .ok (.aload_n 0, 1) := by decide +kernel
theorem dX10_lifts_107 : decode cX10_lifts 107 = .ok (.aload_n 0, 1) := by decide +kernel
theorem dX10_lifts_108 : decode cX10_lifts 108 = .ok (.getfield 267, 3) := by decide +kernel
theorem dX10_lifts_111 : decode cX10_lifts 111 = .ok (.iconst 0, 1) := by decide +kernel
theorem dX10_lifts_112 : decode cX10_lifts 112 = .ok (.invokevirtual 304, 3) := by decide +kernel
theorem dX10_lifts_115 : decode cX10_lifts 115 = .ok (.pop, 1) := by decide +kernel
theorem dX10_lifts_116 : decode cX10_lifts 116 = .ok (.aload_n 0, 1) := by decide +kernel
theorem dX10_lifts_117 : decode cX10_lifts 117 = .ok (.getfield 7, 3) := by decide +kernel
theorem dX10_lifts_120 : decode cX10_lifts 120 = .ok (.sipush 774, 3) := by decide +kernel
theorem dX10_lifts_123 : decode cX10_lifts 123 = .ok (.iload 4, 2) := by decide +kernel
theorem dX10_lifts_125 : decode cX10_lifts 125 = .ok (.iadd, 1) := by decide +kernel
theorem dX10_lifts_126 : decode cX10_lifts 126 = .ok (.aload_n 0, 1) := by decide +kernel
theorem dX10_lifts_127 : decode cX10_lifts 127 = .ok (.getfield 279, 3) := by decide +kernel
theorem dX10_lifts_130 : decode cX10_lifts 130 = .ok (.iastore, 1) := by decide +kernel
theorem dX10_lifts_131 : decode cX10_lifts 131 = .ok (.aload_n 0, 1) := by decide +kernel
theorem dX10_lifts_132 : decode cX10_lifts 132 = .ok (.getfield 7, 3) := by decide +kernel
theorem dX10_lifts_135 : decode cX10_lifts 135 = .ok (.sipush 768, 3) := by decide +kernel
theorem dX10_lifts_138 : decode cX10_lifts 138 = .ok (.iload 4, 2) := by decide +kernel
theorem dX10_lifts_140 : decode cX10_lifts 140 = .ok (.iadd, 1) := by decide +kernel
theorem dX10_lifts_141 : decode cX10_lifts 141 = .ok (.aload_n 0, 1) := by decide +kernel
theorem dX10_lifts_142 : decode cX10_lifts 142 = .ok (.getfield 252, 3) := by decide +kernel
theorem dX10_lifts_145 : decode cX10_lifts 145 = .ok (.iastore, 1) := by decide +kernel
theorem dX10_lifts_146 : decode cX10_lifts 146 = .ok (.aload_n 0, 1) := by decide +kernel
theorem dX10_lifts_147 : decode cX10_lifts 147 = .ok (.getfield 7, 3) := by decide +kernel
theorem dX10_lifts_150 : decode cX10_lifts 150 = .ok (.sipush 762, 3) := by decide +kernel
theorem dX10_lifts_153 : decode cX10_lifts 153 = .ok (.iload 4, 2) := by decide +kernel
theorem dX10_lifts_155 : decode cX10_lifts 155 = .ok (.iadd, 1) := by decide +kernel
theorem dX10_lifts_156 : decode cX10_lifts 156 = .ok (.aload_n 0, 1) := by decide +kernel
theorem dX10_lifts_157 : decode cX10_lifts 157 = .ok (.getfield 43, 3) := by decide +kernel
theorem dX10_lifts_160 : decode cX10_lifts 160 = .ok (.iload_n 1, 1) := by decide +kernel
theorem dX10_lifts_161 : decode cX10_lifts 161 = .ok (.iaload, 1) := by decide +kernel
theorem dX10_lifts_162 : decode cX10_lifts 162 = .ok (.iastore, 1) := by decide +kernel
theorem dX10_lifts_163 : decode cX10_lifts 163 = .ok (.aload_n 0, 1) := by decide +kernel
theorem dX10_lifts_164 : decode cX10_lifts 164 = .ok (.getfield 7, 3) := by decide +kernel
theorem dX10_lifts_167 : decode cX10_lifts 167 = .ok (.sipush 765, 3) := by decide +kernel
theorem dX10_lifts_170 : decode cX10_lifts 170 = .ok (.iload 4, 2) := by decide +kernel
theorem dX10_lifts_172 : decode cX10_lifts 172 = .ok (.iadd, 1) := by decide +kernel
theorem dX10_lifts_173 : decode cX10_lifts 173 = .ok (.aload_n 0, 1) := by decide +kernel
theorem dX10_lifts_174 : decode cX10_lifts 174 = .ok (.getfield 43, 3) := by decide +kernel
theorem dX10_lifts_177 : decode cX10_lifts 177 = .ok (.iload_n 2, 1) := by decide +kernel
theorem dX10_lifts_178 : decode cX10_lifts 178 = .ok (.iaload, 1) := by decide +kernel
theorem dX10_lifts_179 : decode cX10_lifts 179 = .ok (.iastore, 1) := by decide +kernel
theorem dX10_lifts_180 : decode cX10_lifts 180 = .ok (.iconst 0, 1) := by decide +kernel
theorem dX10_lifts_181 : decode cX10_lifts 181 = .ok (.istore 5, 2) := by decide +kernel
theorem dX10_lifts_183 : decode cX10_lifts 183 = .ok (.iload 5, 2) := by decide +kernel
theorem dX10_lifts_185 : decode cX10_lifts 185 = .ok (.iconst 4, 1) := by decide +kernel
theorem dX10_lifts_186 : decode cX10_lifts 186 = .ok (.if_icmp .ge 32, 3) := by decide +kernel
theorem dX10_lifts_189 : decode cX10_lifts 189 = .ok (.aload_n 0, 1) := by decide +kernel
theorem dX10_lifts_190 : decode cX10_lifts 190 = .ok (.getfield 7, 3) := by decide +kernel
theorem dX10_lifts_193 : decode cX10_lifts 193 = .ok (.sipush 777, 3) := by decide +kernel
theorem dX10_lifts_196 : decode cX10_lifts 196 = .ok (.iconst 4, 1) := by decide +kernel
theorem dX10_lifts_197 : decode cX10_lifts 197 = .ok (.iload 4, 2) := by decide +kernel
theorem dX10_lifts_199 : decode cX10_lifts 199 = .ok (.imul, 1) := by decide +kernel
theorem dX10_lifts_200 : decode cX10_lifts 200 = .ok (.iadd, 1) := by decide +kernel
theorem dX10_lifts_201 : decode cX10_lifts 201 = .ok (.iload 5, 2) := by decide +kernel
theorem dX10_lifts_203 : decode cX10_lifts 203 = .ok (.iadd, 1) := by decide +kernel
theorem dX10_lifts_204 : decode cX10_lifts 204 = .ok (.aload_n 0, 1) := by decide +kernel
theorem dX10_lifts_205 : decode cX10_lifts 205 = .ok (.getfield 76, 3) := by decide +kernel
theorem dX10_lifts_208 : decode cX10_lifts 208 = .ok (.iload 5, 2) := by decide +kernel
theorem dX10_lifts_210 : decode cX10_lifts 210 = .ok (.iaload, 1) := by decide +kernel
theorem dX10_lifts_211 : decode cX10_lifts 211 = .ok (.iastore, 1) := by decide +kernel
theorem dX10_lifts_212 : decode cX10_lifts 212 = .ok (.iinc 5 1, 3) := by decide +kernel
theorem dX10_lifts_215 : decode cX10_lifts 215 = .ok (.goto (-32), 3) := by decide +kernel
theorem dX10_lifts_218 : decode cX10_lifts 218 = .ok (.aload_n 0, 1) := by decide +kernel
theorem dX10_lifts_219 : decode cX10_lifts 219 = .ok (.getfield 7, 3) := by decide +kernel
theorem dX10_lifts_222 : decode cX10_lifts 222 = .ok (.sipush 761, 3) := by decide +kernel
theorem dX10_lifts_225 : decode cX10_lifts 225 = .ok (.dup2, 1) := by decide +kernel
theorem dX10_lifts_226 : decode cX10_lifts 226 = .ok (.iaload, 1) := by decide +kernel
theorem dX10_lifts_227 : decode cX10_lifts 227 = .ok (.iconst 1, 1) := by decide +kernel
theorem dX10_lifts_228 : decode cX10_lifts 228 = .ok (.iadd, 1) := by decide +kernel
theorem dX10_lifts_229 : decode cX10_lifts 229 = .ok (.iastore, 1) := by decide +kernel
theorem dX10_lifts_230 : decode cX10_lifts 230 = .ok (.aload_n 0, 1) := by decide +kernel
theorem dX10_lifts_231 : decode cX10_lifts 231 = .ok (.aload_n 0, 1) := by decide +kernel
theorem dX10_lifts_232 : decode cX10_lifts 232 = .ok (.getfield 43, 3) := by decide +kernel
theorem dX10_lifts_235 : decode cX10_lifts 235 = .ok (.iload_n 1, 1) := by decide +kernel
theorem dX10_lifts_236 : decode cX10_lifts 236 = .ok (.iaload, 1) := by decide +kernel
theorem dX10_lifts_237 : decode cX10_lifts 237 = .ok (.aload_n 0, 1) := by decide +kernel
theorem dX10_lifts_238 : decode cX10_lifts 238 = .ok (.getfield 43, 3) := by decide +kernel
theorem dX10_lifts_241 : decode cX10_lifts 241 = .ok (.iload_n 2, 1) := by decide +kernel
theorem dX10_lifts_242 : decode cX10_lifts 242 = .ok (.iaload, 1) := by decide +kernel
theorem dX10_lifts_243 : decode cX10_lifts 243 = .ok (.iload 4, 2) := by decide +kernel
theorem dX10_lifts_245 : decode cX10_lifts 245 = .ok (.aload_n 0, 1) := by decide +kernel
theorem dX10_lifts_246 : decode cX10_lifts 246 = .ok (.getfield 7, 3) := by decide +kernel
theorem dX10_lifts_249 : decode cX10_lifts 249 = .ok (.sipush 771, 3) := by decide +kernel
theorem dX10_lifts_252 : decode cX10_lifts 252 = .ok (.iload 4, 2) := by decide +kernel
theorem dX10_lifts_254 : decode cX10_lifts 254 = .ok (.iadd, 1) := by decide +kernel
theorem dX10_lifts_255 : decode cX10_lifts 255 = .ok (.iaload, 1) := by decide +kernel
theorem dX10_lifts_256 : decode cX10_lifts 256 = .ok (.aload_n 0, 1) := by decide +kernel
theorem dX10_lifts_257 : decode cX10_lifts 257 = .ok (.getfield 7, 3) := by decide +kernel
theorem dX10_lifts_260 : decode cX10_lifts 260 = .ok (.sipush 774, 3) := by decide +kernel
theorem dX10_lifts_263 : decode cX10_lifts 263 = .ok (.iload 4, 2) := by decide +kernel
theorem dX10_lifts_265 : decode cX10_lifts 265 = .ok (.iadd, 1) := by decide +kernel
theorem dX10_lifts_266 : decode cX10_lifts 266 = .ok (.iaload, 1) := by decide +kernel
theorem dX10_lifts_267 : decode cX10_lifts 267 = .ok (.invokevirtual 331, 3) := by decide +kernel
theorem dX10_lifts_270 : decode cX10_lifts 270 = .ok (.iconst 0, 1) := by decide +kernel
theorem dX10_lifts_271 : decode cX10_lifts 271 = .ok (.istore 5, 2) := by decide +kernel
theorem dX10_lifts_273 : decode cX10_lifts 273 = .ok (.iload 5, 2) := by decide +kernel
theorem dX10_lifts_275 : decode cX10_lifts 275 = .ok (.aload_n 0, 1) := by decide +kernel
theorem dX10_lifts_276 : decode cX10_lifts 276 = .ok (.getfield 310, 3) := by decide +kernel
theorem dX10_lifts_279 : decode cX10_lifts 279 = .ok (.if_icmp .ge 72, 3) := by decide +kernel
theorem dX10_lifts_282 : decode cX10_lifts 282 = .ok (.iload_n 3, 1) := by decide +kernel
theorem dX10_lifts_283 : decode cX10_lifts 283 = .ok (.iconst 1, 1) := by decide +kernel
theorem dX10_lifts_284 : decode cX10_lifts 284 = .ok (.if_icmp .ne 67, 3) := by decide +kernel
theorem dX10_lifts_287 : decode cX10_lifts 287 = .ok (.aload_n 0, 1) := by decide +kernel
theorem dX10_lifts_288 : decode cX10_lifts 288 = .ok (.aload_n 0, 1) := by decide +kernel
theorem dX10_lifts_289 : decode cX10_lifts 289 = .ok (.getfield 43, 3) := by decide +kernel
theorem dX10_lifts_292 : decode cX10_lifts 292 = .ok (.aload_n 0, 1) := by decide +kernel
theorem dX10_lifts_293 : decode cX10_lifts 293 = .ok (.getfield 89, 3) := by decide +kernel
theorem dX10_lifts_296 : decode cX10_lifts 296 = .ok (.iload 5, 2) := by decide +kernel
theorem dX10_lifts_298 : decode cX10_lifts 298 = .ok (.iaload, 1) := by decide +kernel
theorem dX10_lifts_299 : decode cX10_lifts 299 = .ok (.iaload, 1) := by decide +kernel
theorem dX10_lifts_300 : decode cX10_lifts 300 = .ok (.aload_n 0, 1) := by decide +kernel
theorem dX10_lifts_301 : decode cX10_lifts 301 = .ok (.iload 5, 2) := by decide +kernel
theorem dX10_lifts_303 : decode cX10_lifts 303 = .ok (.invokevirtual 335, 3) := by decide +kernel
theorem dX10_lifts_306 : decode cX10_lifts 306 = .ok (.iload 4, 2) := by decide +kernel
theorem dX10_lifts_308 : decode cX10_lifts 308 = .ok (.aload_n 0, 1) := by decide +kernel
theorem dX10_lifts_309 : decode cX10_lifts 309 = .ok (.aload_n 0, 1) := by decide +kernel
theorem dX10_lifts_310 : decode cX10_lifts 310 = .ok (.getfield 7, 3) := by decide +kernel
theorem dX10_lifts_313 : decode cX10_lifts 313 = .ok (.sipush 771, 3) := by decide +kernel
theorem dX10_lifts_316 : decode cX10_lifts 316 = .ok (.iload 4, 2) := by decide +kernel
theorem dX10_lifts_318 : decode cX10_lifts 318 = .ok (.iadd, 1) := by decide +kernel
theorem dX10_lifts_319 : decode cX10_lifts 319 = .ok (.iaload, 1) := by decide +kernel
theorem dX10_lifts_320 : decode cX10_lifts 320 = .ok (.iload 5, 2) := by decide +kernel
theorem dX10_lifts_322 : decode cX10_lifts 322 = .ok (.invokevirtual 338, 3) := by decide +kernel
theorem dX10_lifts_325 : decode cX10_lifts 325 = .ok (.aload_n 0, 1) := by decide +kernel
theorem dX10_lifts_326 : decode cX10_lifts 326 = .ok (.aload_n 0, 1) := by decide +kernel
theorem dX10_lifts_327 : decode cX10_lifts 327 = .ok (.getfield 7, 3) := by decide +kernel
theorem dX10_lifts_330 : decode cX10_lifts 330 = .ok (.sipush 774, 3) := by decide +kernel
theorem dX10_lifts_333 : decode cX10_lifts 333 = .ok (.iload 4, 2) := by decide +kernel
theorem dX10_lifts_335 : decode cX10_lifts 335 = .ok (.iadd, 1) := by decide +kernel
theorem dX10_lifts_336 : decode cX10_lifts 336 = .ok (.iaload, 1) := by decide +kernel
theorem dX10_lifts_337 : decode cX10_lifts 337 = .ok (.iload 5, 2) := by decide +kernel
theorem dX10_lifts_339 : decode cX10_lifts 339 = .ok (.invokevirtual 338, 3) := by decide +kernel
theorem dX10_lifts_342 : decode cX10_lifts 342 = .ok (.invokevirtual 331, 3) := by decide +kernel
theorem dX10_lifts_345 : decode cX10_lifts 345 = .ok (.iinc 5 1, 3) := by decide +kernel
theorem dX10_lifts_348 : decode cX10_lifts 348 = .ok (.goto (-75), 3) := by decide +kernel
theorem dX10_lifts_351 : decode cX10_lifts 351 = .ok (.iload_n 3, 1) := by decide +kernel
theorem dX10_lifts_352 : decode cX10_lifts 352 = .ok (.iconst 1, 1) := by decide +kernel
theorem dX10_lifts_353 : decode cX10_lifts 353 = .ok (.if_icmp .ne 12, 3) := by decide +kernel
theorem dX10_lifts_356 : decode cX10_lifts 356 = .ok (.iconst 1, 1) := by decide +kernel
theorem dX10_lifts_357 : decode cX10_lifts 357 = .ok (.aload_n 0, 1) := by decide +kernel
theorem dX10_lifts_358 : decode cX10_lifts 358 = .ok (.getfield 310, 3) := by decide +kernel
theorem dX10_lifts_361 : decode cX10_lifts 361 = .ok (.iadd, 1) := by decide +kernel
theorem dX10_lifts_362 : decode cX10_lifts 362 = .ok (.goto 4, 3) := by decide +kernel
theorem dX10_lifts_365 : decode cX10_lifts 365 = .ok (.iconst 1, 1) := by decide +kernel
theorem dX10_lifts_366 : decode cX10_lifts 366 = .ok (.ireturn, 1) := by decide +kernel
set_option maxHeartbeats 4000000 in
set_option maxRecDepth 10000 in
theorem vX10_lifts_0 {l : Launch} {M : sl_M} {Q : sl_R} {x1 x2 x3 : Int} (H : sl_RM M → sl_rg x1 → sl_rg x2 → sl_rg x3 → sl_RV l mX10_lays [vR 1 0] M (fun M1 => ((0 ≤ x3 ∧ x3 ≤ 1) → sl_RI l mX10_isSpan [vR 1 0, vI x1, vI x2] M1 (fun y4 M3 => ((y4 ≠ 0) → sl_RV l mX10_laysAlike [vR 1 0, vI x1, vI x2] M3 (fun M6 => ((M6 1 0 37 = 0) → ((M6 1 1 761 ≠ 3) → sl_RV l mX10_keepsState [vR 1 0] M6 (fun M9 => sl_RI l mX10_listOf [vR 1 0, vI (M9 1 0 34), vI 0] M9 (fun y11 M10 => (0 ≤ 771 + (M9 1 1 761) ∧ 771 + (M9 1 1 761) < 990) ∧ (∀ M13, M13 = sl_wr M10 1 1 (771 + (M9 1 1 761)) (M10 1 0 43) → sl_RI l mX10_listOf [vR 1 0, vI (M13 1 0 35), vI 0] M13 (fun y15 M14 => (0 ≤ 774 + (M9 1 1 761) ∧ 774 + (M9 1 1 761) < 990) ∧ (∀ M17, M17 = sl_wr M14 1 1 (774 + (M9 1 1 761)) (M14 1 0 43) → (0 ≤ 768 + (M9 1 1 761) ∧ 768 + (M9 1 1 761) < 990) ∧ (∀ M19, M19 = sl_wr M17 1 1 (768 + (M9 1 1 761)) (M17 1 0 33) → (0 ≤ x1 ∧ x1 < 82) ∧ (0 ≤ 762 + (M9 1 1 761) ∧ 762 + (M9 1 1 761) < 990) ∧ (∀ M22, M22 = sl_wr M19 1 1 (762 + (M9 1 1 761)) (M19 1 21 x1) → (0 ≤ x2 ∧ x2 < 82) ∧ (0 ≤ 765 + (M9 1 1 761) ∧ 765 + (M9 1 1 761) < 990) ∧ (∀ M25, M25 = sl_wr M22 1 1 (765 + (M9 1 1 761)) (M22 1 21 x2) → sl_At l mX10_lifts 183 [(0, vR 1 0), (1, vI x1), (2, vI x2), (3, vI x3), (4, vI (M9 1 1 761)), (5, vI 0)] [] M25 Q))))))))) ∧ ((¬ (M6 1 1 761 ≠ 3)) → sl_RI l mX10_full [vR 1 0] M6 (fun y27 M26 => Q (some (vI y27)) M26))) ∧ ((¬ (M6 1 0 37 = 0)) → sl_RI l mX10_no [vR 1 0] M6 (fun y29 M28 => Q (some (vI y29)) M28)))) ∧ ((¬ (y4 ≠ 0)) → sl_RI l mX10_no [vR 1 0] M3 (fun y31 M30 => Q (some (vI y31)) M30)))) ∧ ((¬ (0 ≤ x3 ∧ x3 ≤ 1)) → sl_RI l mX10_bad [vR 1 0] M1 (fun y33 M32 => Q (some (vI y33)) M32)))) : sl_At l mX10_lifts 0 [(0, vR 1 0), (1, vI x1), (2, vI x2), (3, vI x3)] [] M Q := by
  refine sl_At.in (fun hM hls => ?_)
  have g1 : sl_rg x1 := hls _ (List.mem_of_getElem? (i := 1) rfl)
  have g2 : sl_rg x2 := hls _ (List.mem_of_getElem? (i := 2) rfl)
  have g3 : sl_rg x3 := hls _ (List.mem_of_getElem? (i := 3) rfl)
  have H := H hM g1 g2 g3
  refine r_aload_n (k := 0) rfl rfl dX10_lifts_0 ?_
  refine r_callV (g := mX10_lays) ckX10 rfl rfl rfl rfl mkX10_lays mvX10_lays ml_X10_292 ⟨by decide, by decide⟩ rfl (Nat.le_of_ble_eq_true rfl) rfl ok_n dX10_lifts_1 (sl_afterV (sl_RV.mono (fun M1 hM1 H => ?_) H))
  refine r_iload_n (k := 3) rfl rfl dX10_lifts_4 ?_
  refine r_iconst dX10_lifts_5 ?_
  refine r_iconst dX10_lifts_6 ?_
  refine r_callS (g := mX10_in) rfl mkX10_in msX10_in ml_X10_135 ⟨by decide, by decide⟩ rfl (Nat.le_of_ble_eq_true rfl) rfl (ok_i g3 (ok_i ⟨by decide, by decide⟩ (ok_i ⟨by decide, by decide⟩ ok_n))) dX10_lifts_7 (sl_afterI (sl_RI.by kX10_in ?_))
  refine r_if_ne (tgt := 18) rg_b dX10_lifts_10 (by decide) (fun h2 => ?_) (fun h2 => ?_)
  · have H := H.1 (b_ne0.mp h2)
    refine r_aload_n (k := 0) rfl rfl dX10_lifts_18 ?_
    refine r_iload_n (k := 1) rfl rfl dX10_lifts_19 ?_
    refine r_iload_n (k := 2) rfl rfl dX10_lifts_20 ?_
    refine r_callV (g := mX10_isSpan) ckX10 rfl rfl rfl rfl mkX10_isSpan mvX10_isSpan ml_X10_295 ⟨by decide, by decide⟩ rfl (Nat.le_of_ble_eq_true rfl) rfl (ok_i g1 (ok_i g2 ok_n)) dX10_lifts_21 (sl_afterI (sl_RI.mono (fun y4 M3 gy4 hM3 H => ?_) H))
    refine r_if_ne (tgt := 32) gy4 dX10_lifts_24 (by decide) (fun h5 => ?_) (fun h5 => ?_)
    · have H := H.1 h5
      refine r_aload_n (k := 0) rfl rfl dX10_lifts_32 ?_
      refine r_iload_n (k := 1) rfl rfl dX10_lifts_33 ?_
      refine r_iload_n (k := 2) rfl rfl dX10_lifts_34 ?_
      refine r_callV (g := mX10_laysAlike) ckX10 rfl rfl rfl rfl mkX10_laysAlike mvX10_laysAlike ml_X10_328 ⟨by decide, by decide⟩ rfl (Nat.le_of_ble_eq_true rfl) rfl (ok_i g1 (ok_i g2 ok_n)) dX10_lifts_35 (sl_afterV (sl_RV.mono (fun M6 hM6 H => ?_) H))
      refine r_aload_n (k := 0) rfl rfl dX10_lifts_38 ?_
      refine r_gI (k := 37) (kz := 37) rfl ckX10 rfl rfl (by decide) rfl rfl fl_X10_273 dX10_lifts_39 ?_
      refine r_if_eq (tgt := 50) (hM6 _ _ _) dX10_lifts_42 (by decide) (fun h7 => ?_) (fun h7 => ?_)
      · have H := H.1 h7
        refine r_aload_n (k := 0) rfl rfl dX10_lifts_50 ?_
        refine r_getR (k := 0) (o' := 1) (i' := 1) ckX10 rfl rfl (by decide) rfl rfl rfl fl_X10_7 dX10_lifts_51 ?_
        refine r_sipush dX10_lifts_54 (by decide) ?_
        refine r_iald rfl rfl rfl ⟨by decide, by decide⟩ dX10_lifts_57 ?_
        refine r_iconst dX10_lifts_58 ?_
        refine r_icmp_ne (tgt := 67) (hM6 _ _ _) ⟨by decide, by decide⟩ dX10_lifts_59 (by decide) (fun h8 => ?_) (fun h8 => ?_)
        · have H := H.1 h8
          refine r_aload_n (k := 0) rfl rfl dX10_lifts_67 ?_
          refine r_callV (g := mX10_keepsState) ckX10 rfl rfl rfl rfl mkX10_keepsState mvX10_keepsState ml_X10_189 ⟨by decide, by decide⟩ rfl (Nat.le_of_ble_eq_true rfl) rfl ok_n dX10_lifts_68 (sl_afterV (sl_RV.mono (fun M9 hM9 H => ?_) H))
          refine r_aload_n (k := 0) rfl rfl dX10_lifts_71 ?_
          refine r_getR (k := 0) (o' := 1) (i' := 1) ckX10 rfl rfl (by decide) rfl rfl rfl fl_X10_7 dX10_lifts_72 ?_
          refine r_sipush dX10_lifts_75 (by decide) ?_
          refine r_iald rfl rfl rfl ⟨by decide, by decide⟩ dX10_lifts_78 ?_
          refine r_istore (ls' := [(4, vI (M9 1 1 761)), (0, vR 1 0), (1, vI x1), (2, vI x2), (3, vI x3)]) (hM9 _ _ _) (by decide) rfl dX10_lifts_79 ?_
          refine r_aload_n (k := 1) rfl rfl dX10_lifts_81 ?_
          refine r_aload_n (k := 1) rfl rfl dX10_lifts_82 ?_
          refine r_gI (k := 34) (kz := 34) rfl ckX10 rfl rfl (by decide) rfl rfl fl_X10_261 dX10_lifts_83 ?_
          refine r_iconst dX10_lifts_86 ?_
          refine r_callV (g := mX10_listOf) ckX10 rfl rfl rfl rfl mkX10_listOf mvX10_listOf ml_X10_304 ⟨by decide, by decide⟩ rfl (Nat.le_of_ble_eq_true rfl) rfl (ok_i (hM9 _ _ _) (ok_i ⟨by decide, by decide⟩ ok_n)) dX10_lifts_87 (sl_afterI (sl_RI.mono (fun y11 M10 gy11 hM10 H => ?_) H))
          refine r_pop rfl dX10_lifts_90 ?_
          refine r_aload_n (k := 1) rfl rfl dX10_lifts_91 ?_
          refine r_getR (k := 0) (o' := 1) (i' := 1) ckX10 rfl rfl (by decide) rfl rfl rfl fl_X10_7 dX10_lifts_92 ?_
          refine r_sipush dX10_lifts_95 (by decide) ?_
          refine r_iload (k := 0) rfl dX10_lifts_98 ?_
          refine r_iadd dX10_lifts_100 ?_
          refine r_aload_n (k := 1) rfl rfl dX10_lifts_101 ?_
          refine r_gI (k := 43) (kz := 43) rfl ckX10 rfl rfl (by decide) rfl rfl fl_X10_279 dX10_lifts_102 ?_
          obtain ⟨c12, H⟩ := H
          refine r_iast rfl rfl rfl c12 (hM10 _ _ _) dX10_lifts_105 ?_
          refine r_mm (fun M13 e13 => ?_)
          have H := H M13 e13
          have hM13 : sl_RM M13 := by rw [e13]; exact sl_wr_RM hM10 (hM10 _ _ _)
          refine r_aload_n (k := 1) rfl rfl dX10_lifts_106 ?_
          refine r_aload_n (k := 1) rfl rfl dX10_lifts_107 ?_
          refine r_gI (k := 35) (kz := 35) rfl ckX10 rfl rfl (by decide) rfl rfl fl_X10_267 dX10_lifts_108 ?_
          refine r_iconst dX10_lifts_111 ?_
          refine r_callV (g := mX10_listOf) ckX10 rfl rfl rfl rfl mkX10_listOf mvX10_listOf ml_X10_304 ⟨by decide, by decide⟩ rfl (Nat.le_of_ble_eq_true rfl) rfl (ok_i (hM13 _ _ _) (ok_i ⟨by decide, by decide⟩ ok_n)) dX10_lifts_112 (sl_afterI (sl_RI.mono (fun y15 M14 gy15 hM14 H => ?_) H))
          refine r_pop rfl dX10_lifts_115 ?_
          refine r_aload_n (k := 1) rfl rfl dX10_lifts_116 ?_
          refine r_getR (k := 0) (o' := 1) (i' := 1) ckX10 rfl rfl (by decide) rfl rfl rfl fl_X10_7 dX10_lifts_117 ?_
          refine r_sipush dX10_lifts_120 (by decide) ?_
          refine r_iload (k := 0) rfl dX10_lifts_123 ?_
          refine r_iadd dX10_lifts_125 ?_
          refine r_aload_n (k := 1) rfl rfl dX10_lifts_126 ?_
          refine r_gI (k := 43) (kz := 43) rfl ckX10 rfl rfl (by decide) rfl rfl fl_X10_279 dX10_lifts_127 ?_
          obtain ⟨c16, H⟩ := H
          refine r_iast rfl rfl rfl c16 (hM14 _ _ _) dX10_lifts_130 ?_
          refine r_mm (fun M17 e17 => ?_)
          have H := H M17 e17
          have hM17 : sl_RM M17 := by rw [e17]; exact sl_wr_RM hM14 (hM14 _ _ _)
          refine r_aload_n (k := 1) rfl rfl dX10_lifts_131 ?_
          refine r_getR (k := 0) (o' := 1) (i' := 1) ckX10 rfl rfl (by decide) rfl rfl rfl fl_X10_7 dX10_lifts_132 ?_
          refine r_sipush dX10_lifts_135 (by decide) ?_
          refine r_iload (k := 0) rfl dX10_lifts_138 ?_
          refine r_iadd dX10_lifts_140 ?_
          refine r_aload_n (k := 1) rfl rfl dX10_lifts_141 ?_
          refine r_gI (k := 33) (kz := 33) rfl ckX10 rfl rfl (by decide) rfl rfl fl_X10_252 dX10_lifts_142 ?_
          obtain ⟨c18, H⟩ := H
          refine r_iast rfl rfl rfl c18 (hM17 _ _ _) dX10_lifts_145 ?_
          refine r_mm (fun M19 e19 => ?_)
          have H := H M19 e19
          have hM19 : sl_RM M19 := by rw [e19]; exact sl_wr_RM hM17 (hM17 _ _ _)
          refine r_aload_n (k := 1) rfl rfl dX10_lifts_146 ?_
          refine r_getR (k := 0) (o' := 1) (i' := 1) ckX10 rfl rfl (by decide) rfl rfl rfl fl_X10_7 dX10_lifts_147 ?_
          refine r_sipush dX10_lifts_150 (by decide) ?_
          refine r_iload (k := 0) rfl dX10_lifts_153 ?_
          refine r_iadd dX10_lifts_155 ?_
          refine r_aload_n (k := 1) rfl rfl dX10_lifts_156 ?_
          refine r_getR (k := 20) (o' := 1) (i' := 21) ckX10 rfl rfl (by decide) rfl rfl rfl fl_X10_43 dX10_lifts_157 ?_
          refine r_iload_n (k := 2) rfl rfl dX10_lifts_160 ?_
          obtain ⟨c20, H⟩ := H
          refine r_iald rfl rfl rfl c20 dX10_lifts_161 ?_
          obtain ⟨c21, H⟩ := H
          refine r_iast rfl rfl rfl c21 (hM19 _ _ _) dX10_lifts_162 ?_
          refine r_mm (fun M22 e22 => ?_)
          have H := H M22 e22
          have hM22 : sl_RM M22 := by rw [e22]; exact sl_wr_RM hM19 (hM19 _ _ _)
          refine r_aload_n (k := 1) rfl rfl dX10_lifts_163 ?_
          refine r_getR (k := 0) (o' := 1) (i' := 1) ckX10 rfl rfl (by decide) rfl rfl rfl fl_X10_7 dX10_lifts_164 ?_
          refine r_sipush dX10_lifts_167 (by decide) ?_
          refine r_iload (k := 0) rfl dX10_lifts_170 ?_
          refine r_iadd dX10_lifts_172 ?_
          refine r_aload_n (k := 1) rfl rfl dX10_lifts_173 ?_
          refine r_getR (k := 20) (o' := 1) (i' := 21) ckX10 rfl rfl (by decide) rfl rfl rfl fl_X10_43 dX10_lifts_174 ?_
          refine r_iload_n (k := 3) rfl rfl dX10_lifts_177 ?_
          obtain ⟨c23, H⟩ := H
          refine r_iald rfl rfl rfl c23 dX10_lifts_178 ?_
          obtain ⟨c24, H⟩ := H
          refine r_iast rfl rfl rfl c24 (hM22 _ _ _) dX10_lifts_179 ?_
          refine r_mm (fun M25 e25 => ?_)
          have H := H M25 e25
          have hM25 : sl_RM M25 := by rw [e25]; exact sl_wr_RM hM22 (hM22 _ _ _)
          refine r_iconst dX10_lifts_180 ?_
          refine r_istore (ls' := [(5, vI 0), (4, vI (M9 1 1 761)), (0, vR 1 0), (1, vI x1), (2, vI x2), (3, vI x3)]) ⟨by decide, by decide⟩ (by decide) rfl dX10_lifts_181 ?_
          exact sl_At.sub [2, 3, 4, 5, 1, 0] rfl H
        · have H := H.2 h8
          refine r_aload_n (k := 0) rfl rfl dX10_lifts_62 ?_
          refine r_callV (g := mX10_full) ckX10 rfl rfl rfl rfl mkX10_full mvX10_full ml_X10_146 ⟨by decide, by decide⟩ rfl (Nat.le_of_ble_eq_true rfl) rfl ok_n dX10_lifts_63 (sl_afterI (sl_RI.mono (fun y27 M26 gy27 hM26 H => ?_) H))
          refine r_iret rfl gy27 dX10_lifts_66 ?_
          exact H
      · have H := H.2 h7
        refine r_aload_n (k := 0) rfl rfl dX10_lifts_45 ?_
        refine r_callV (g := mX10_no) ckX10 rfl rfl rfl rfl mkX10_no mvX10_no ml_X10_298 ⟨by decide, by decide⟩ rfl (Nat.le_of_ble_eq_true rfl) rfl ok_n dX10_lifts_46 (sl_afterI (sl_RI.mono (fun y29 M28 gy29 hM28 H => ?_) H))
        refine r_iret rfl gy29 dX10_lifts_49 ?_
        exact H
    · have H := H.2 h5
      refine r_aload_n (k := 0) rfl rfl dX10_lifts_27 ?_
      refine r_callV (g := mX10_no) ckX10 rfl rfl rfl rfl mkX10_no mvX10_no ml_X10_298 ⟨by decide, by decide⟩ rfl (Nat.le_of_ble_eq_true rfl) rfl ok_n dX10_lifts_28 (sl_afterI (sl_RI.mono (fun y31 M30 gy31 hM30 H => ?_) H))
      refine r_iret rfl gy31 dX10_lifts_31 ?_
      exact H
  · have H := H.2 (b_eq0.mp (Decidable.of_not_not h2))
    refine r_aload_n (k := 0) rfl rfl dX10_lifts_13 ?_
    refine r_callV (g := mX10_bad) ckX10 rfl rfl rfl rfl mkX10_bad mvX10_bad ml_X10_139 ⟨by decide, by decide⟩ rfl (Nat.le_of_ble_eq_true rfl) rfl ok_n dX10_lifts_14 (sl_afterI (sl_RI.mono (fun y33 M32 gy33 hM32 H => ?_) H))
    refine r_iret rfl gy33 dX10_lifts_17 ?_
    exact H
set_option maxHeartbeats 4000000 in
set_option maxRecDepth 10000 in
theorem vX10_lifts_183 {l : Launch} {M : sl_M} {Q : sl_R} {x1 x2 x3 x4 x5 : Int} (H : sl_RM M → sl_rg x1 → sl_rg x2 → sl_rg x3 → sl_rg x4 → sl_rg x5 → ((4 ≤ x5) → (sl_rg (M 1 1 761 + 1)) ∧ (∀ M3, M3 = sl_wr M 1 1 761 (M 1 1 761 + 1) → (0 ≤ x1 ∧ x1 < 82) ∧ (0 ≤ x2 ∧ x2 < 82) ∧ (0 ≤ 771 + x4 ∧ 771 + x4 < 990) ∧ (0 ≤ 774 + x4 ∧ 774 + x4 < 990) ∧ sl_RV l mX10_calls [vR 1 0, vI (M3 1 21 x1), vI (M3 1 21 x2), vI x4, vI (M3 1 1 (771 + x4)), vI (M3 1 1 (774 + x4))] M3 (fun M8 => sl_At l mX10_lifts 273 [(0, vR 1 0), (3, vI x3), (4, vI x4), (5, vI 0)] [] M8 Q))) ∧ ((¬ (4 ≤ x5)) → (0 ≤ x5 ∧ x5 < 4) ∧ (0 ≤ (777 + (4 * x4)) + x5 ∧ (777 + (4 * x4)) + x5 < 990) ∧ (∀ M11, M11 = sl_wr M 1 1 ((777 + (4 * x4)) + x5) (M 1 39 x5) → (sl_rg (x5 + 1)) ∧ sl_At l mX10_lifts 183 [(0, vR 1 0), (1, vI x1), (2, vI x2), (3, vI x3), (4, vI x4), (5, vI (x5 + 1))] [] M11 Q))) : sl_At l mX10_lifts 183 [(0, vR 1 0), (1, vI x1), (2, vI x2), (3, vI x3), (4, vI x4), (5, vI x5)] [] M Q := by
  refine sl_At.in (fun hM hls => ?_)
  have g1 : sl_rg x1 := hls _ (List.mem_of_getElem? (i := 1) rfl)
  have g2 : sl_rg x2 := hls _ (List.mem_of_getElem? (i := 2) rfl)
  have g3 : sl_rg x3 := hls _ (List.mem_of_getElem? (i := 3) rfl)
  have g4 : sl_rg x4 := hls _ (List.mem_of_getElem? (i := 4) rfl)
  have g5 : sl_rg x5 := hls _ (List.mem_of_getElem? (i := 5) rfl)
  have H := H hM g1 g2 g3 g4 g5
  refine r_iload (k := 5) rfl dX10_lifts_183 ?_
  refine r_iconst dX10_lifts_185 ?_
  refine r_icmp_ge (tgt := 218) g5 ⟨by decide, by decide⟩ dX10_lifts_186 (by decide) (fun h1 => ?_) (fun h1 => ?_)
  · have H := H.1 h1
    refine r_aload_n (k := 0) rfl rfl dX10_lifts_218 ?_
    refine r_getR (k := 0) (o' := 1) (i' := 1) ckX10 rfl rfl (by decide) rfl rfl rfl fl_X10_7 dX10_lifts_219 ?_
    refine r_sipush dX10_lifts_222 (by decide) ?_
    refine r_dup2 rfl rfl dX10_lifts_225 ?_
    refine r_iald rfl rfl rfl ⟨by decide, by decide⟩ dX10_lifts_226 ?_
    refine r_iconst dX10_lifts_227 ?_
    refine r_iadd dX10_lifts_228 ?_
    obtain ⟨c2, H⟩ := H
    refine r_iast rfl rfl rfl ⟨by decide, by decide⟩ c2 dX10_lifts_229 ?_
    refine r_mm (fun M3 e3 => ?_)
    have H := H M3 e3
    have hM3 : sl_RM M3 := by rw [e3]; exact sl_wr_RM hM c2
    refine r_aload_n (k := 0) rfl rfl dX10_lifts_230 ?_
    refine r_aload_n (k := 0) rfl rfl dX10_lifts_231 ?_
    refine r_getR (k := 20) (o' := 1) (i' := 21) ckX10 rfl rfl (by decide) rfl rfl rfl fl_X10_43 dX10_lifts_232 ?_
    refine r_iload_n (k := 1) rfl rfl dX10_lifts_235 ?_
    obtain ⟨c4, H⟩ := H
    refine r_iald rfl rfl rfl c4 dX10_lifts_236 ?_
    refine r_aload_n (k := 0) rfl rfl dX10_lifts_237 ?_
    refine r_getR (k := 20) (o' := 1) (i' := 21) ckX10 rfl rfl (by decide) rfl rfl rfl fl_X10_43 dX10_lifts_238 ?_
    refine r_iload_n (k := 2) rfl rfl dX10_lifts_241 ?_
    obtain ⟨c5, H⟩ := H
    refine r_iald rfl rfl rfl c5 dX10_lifts_242 ?_
    refine r_iload (k := 4) rfl dX10_lifts_243 ?_
    refine r_aload_n (k := 0) rfl rfl dX10_lifts_245 ?_
    refine r_getR (k := 0) (o' := 1) (i' := 1) ckX10 rfl rfl (by decide) rfl rfl rfl fl_X10_7 dX10_lifts_246 ?_
    refine r_sipush dX10_lifts_249 (by decide) ?_
    refine r_iload (k := 4) rfl dX10_lifts_252 ?_
    refine r_iadd dX10_lifts_254 ?_
    obtain ⟨c6, H⟩ := H
    refine r_iald rfl rfl rfl c6 dX10_lifts_255 ?_
    refine r_aload_n (k := 0) rfl rfl dX10_lifts_256 ?_
    refine r_getR (k := 0) (o' := 1) (i' := 1) ckX10 rfl rfl (by decide) rfl rfl rfl fl_X10_7 dX10_lifts_257 ?_
    refine r_sipush dX10_lifts_260 (by decide) ?_
    refine r_iload (k := 4) rfl dX10_lifts_263 ?_
    refine r_iadd dX10_lifts_265 ?_
    obtain ⟨c7, H⟩ := H
    refine r_iald rfl rfl rfl c7 dX10_lifts_266 ?_
    refine r_callV (g := mX10_calls) ckX10 rfl rfl rfl rfl mkX10_calls mvX10_calls ml_X10_331 ⟨by decide, by decide⟩ rfl (Nat.le_of_ble_eq_true rfl) rfl (ok_i (hM3 _ _ _) (ok_i (hM3 _ _ _) (ok_i g4 (ok_i (hM3 _ _ _) (ok_i (hM3 _ _ _) ok_n))))) dX10_lifts_267 (sl_afterV (sl_RV.mono (fun M8 hM8 H => ?_) H))
    refine r_iconst dX10_lifts_270 ?_
    refine r_istore (ls' := [(5, vI 0), (0, vR 1 0), (1, vI x1), (2, vI x2), (3, vI x3), (4, vI x4)]) ⟨by decide, by decide⟩ (by decide) rfl dX10_lifts_271 ?_
    exact sl_At.sub [1, 4, 5, 0] rfl H
  · have H := H.2 h1
    refine r_aload_n (k := 0) rfl rfl dX10_lifts_189 ?_
    refine r_getR (k := 0) (o' := 1) (i' := 1) ckX10 rfl rfl (by decide) rfl rfl rfl fl_X10_7 dX10_lifts_190 ?_
    refine r_sipush dX10_lifts_193 (by decide) ?_
    refine r_iconst dX10_lifts_196 ?_
    refine r_iload (k := 4) rfl dX10_lifts_197 ?_
    refine r_imul dX10_lifts_199 ?_
    refine r_iadd dX10_lifts_200 ?_
    refine r_iload (k := 5) rfl dX10_lifts_201 ?_
    refine r_iadd dX10_lifts_203 ?_
    refine r_aload_n (k := 0) rfl rfl dX10_lifts_204 ?_
    refine r_getR (k := 38) (o' := 1) (i' := 39) ckX10 rfl rfl (by decide) rfl rfl rfl fl_X10_76 dX10_lifts_205 ?_
    refine r_iload (k := 5) rfl dX10_lifts_208 ?_
    obtain ⟨c9, H⟩ := H
    refine r_iald rfl rfl rfl c9 dX10_lifts_210 ?_
    obtain ⟨c10, H⟩ := H
    refine r_iast rfl rfl rfl c10 (hM _ _ _) dX10_lifts_211 ?_
    refine r_mm (fun M11 e11 => ?_)
    have H := H M11 e11
    have hM11 : sl_RM M11 := by rw [e11]; exact sl_wr_RM hM (hM _ _ _)
    obtain ⟨c12, H⟩ := H
    refine r_iinc (k := 5) (ls' := [(5, vI (x5 + 1)), (0, vR 1 0), (1, vI x1), (2, vI x2), (3, vI x3), (4, vI x4)]) rfl c12 (by decide) rfl dX10_lifts_212 ?_
    refine r_goto (tgt := 183) dX10_lifts_215 (by decide) ?_
    exact sl_At.sub [1, 2, 3, 4, 5, 0] rfl H
set_option maxHeartbeats 4000000 in
set_option maxRecDepth 10000 in
theorem vX10_lifts_273 {l : Launch} {M : sl_M} {Q : sl_R} {x3 x4 x5 : Int} (H : sl_RM M → sl_rg x3 → sl_rg x4 → sl_rg x5 → ((M 1 0 45 ≤ x5) → (sl_rg (if x3 ≠ 1 then 1 else 1 + (M 1 0 45))) ∧ Q (some (vI (if x3 ≠ 1 then 1 else 1 + (M 1 0 45)))) M) ∧ ((¬ (M 1 0 45 ≤ x5)) → ((x3 ≠ 1) → (sl_rg (if x3 ≠ 1 then 1 else 1 + (M 1 0 45))) ∧ Q (some (vI (if x3 ≠ 1 then 1 else 1 + (M 1 0 45)))) M) ∧ ((¬ (x3 ≠ 1)) → (0 ≤ x5 ∧ x5 < 40) ∧ (0 ≤ M 1 47 x5 ∧ M 1 47 x5 < 82) ∧ sl_RI l mX10_lastTold [vR 1 0, vI x5] M (fun y10 M9 => (0 ≤ 771 + x4 ∧ 771 + x4 < 990) ∧ sl_RI l mX10_answeredList [vR 1 0, vI (M9 1 1 (771 + x4)), vI x5] M9 (fun y13 M12 => (0 ≤ 774 + x4 ∧ 774 + x4 < 990) ∧ sl_RI l mX10_answeredList [vR 1 0, vI (M12 1 1 (774 + x4)), vI x5] M12 (fun y16 M15 => sl_RV l mX10_calls [vR 1 0, vI (M 1 21 (M 1 47 x5)), vI y10, vI x4, vI y13, vI y16] M15 (fun M17 => (sl_rg (x5 + 1)) ∧ sl_At l mX10_lifts 273 [(0, vR 1 0), (3, vI x3), (4, vI x4), (5, vI (x5 + 1))] [] M17 Q))))))) : sl_At l mX10_lifts 273 [(0, vR 1 0), (3, vI x3), (4, vI x4), (5, vI x5)] [] M Q := by
  refine sl_At.in (fun hM hls => ?_)
  have g3 : sl_rg x3 := hls _ (List.mem_of_getElem? (i := 1) rfl)
  have g4 : sl_rg x4 := hls _ (List.mem_of_getElem? (i := 2) rfl)
  have g5 : sl_rg x5 := hls _ (List.mem_of_getElem? (i := 3) rfl)
  have H := H hM g3 g4 g5
  refine r_iload (k := 3) rfl dX10_lifts_273 ?_
  refine r_aload_n (k := 0) rfl rfl dX10_lifts_275 ?_
  refine r_gI (k := 45) (kz := 45) rfl ckX10 rfl rfl (by decide) rfl rfl fl_X10_310 dX10_lifts_276 ?_
  refine r_icmp_ge (tgt := 351) g5 (hM _ _ _) dX10_lifts_279 (by decide) (fun h1 => ?_) (fun h1 => ?_)
  · have H := H.1 h1
    refine r_iload_n (k := 1) rfl rfl dX10_lifts_351 ?_
    refine r_iconst dX10_lifts_352 ?_
    have J : sl_At l mX10_lifts 366 [(0, vR 1 0), (3, vI x3), (4, vI x4), (5, vI x5)] [vI (if x3 ≠ 1 then 1 else 1 + (M 1 0 45))] M Q := by
      obtain ⟨c3, H⟩ := H
      refine r_iret rfl c3 dX10_lifts_366 ?_
      exact H
    refine r_icmp_ne (tgt := 365) g3 ⟨by decide, by decide⟩ dX10_lifts_353 (by decide) (fun h2 => ?_) (fun h2 => ?_)
    · refine r_iconst dX10_lifts_365 ?_
      rw [if_pos h2] at J
      exact J
    · refine r_iconst dX10_lifts_356 ?_
      refine r_aload_n (k := 0) rfl rfl dX10_lifts_357 ?_
      refine r_gI (k := 45) (kz := 45) rfl ckX10 rfl rfl (by decide) rfl rfl fl_X10_310 dX10_lifts_358 ?_
      refine r_iadd dX10_lifts_361 ?_
      refine r_goto (tgt := 366) dX10_lifts_362 (by decide) ?_
      rw [if_neg h2] at J
      exact J
  · have H := H.2 h1
    refine r_iload_n (k := 1) rfl rfl dX10_lifts_282 ?_
    refine r_iconst dX10_lifts_283 ?_
    refine r_icmp_ne (tgt := 351) g3 ⟨by decide, by decide⟩ dX10_lifts_284 (by decide) (fun h4 => ?_) (fun h4 => ?_)
    · have H := H.1 h4
      refine r_iload_n (k := 1) rfl rfl dX10_lifts_351 ?_
      refine r_iconst dX10_lifts_352 ?_
      have J : sl_At l mX10_lifts 366 [(0, vR 1 0), (3, vI x3), (4, vI x4), (5, vI x5)] [vI (if x3 ≠ 1 then 1 else 1 + (M 1 0 45))] M Q := by
        obtain ⟨c6, H⟩ := H
        refine r_iret rfl c6 dX10_lifts_366 ?_
        exact H
      refine r_icmp_ne (tgt := 365) g3 ⟨by decide, by decide⟩ dX10_lifts_353 (by decide) (fun h5 => ?_) (fun h5 => ?_)
      · refine r_iconst dX10_lifts_365 ?_
        rw [if_pos h5] at J
        exact J
      · refine r_iconst dX10_lifts_356 ?_
        refine r_aload_n (k := 0) rfl rfl dX10_lifts_357 ?_
        refine r_gI (k := 45) (kz := 45) rfl ckX10 rfl rfl (by decide) rfl rfl fl_X10_310 dX10_lifts_358 ?_
        refine r_iadd dX10_lifts_361 ?_
        refine r_goto (tgt := 366) dX10_lifts_362 (by decide) ?_
        rw [if_neg h5] at J
        exact J
    · have H := H.2 h4
      refine r_aload_n (k := 0) rfl rfl dX10_lifts_287 ?_
      refine r_aload_n (k := 0) rfl rfl dX10_lifts_288 ?_
      refine r_getR (k := 20) (o' := 1) (i' := 21) ckX10 rfl rfl (by decide) rfl rfl rfl fl_X10_43 dX10_lifts_289 ?_
      refine r_aload_n (k := 0) rfl rfl dX10_lifts_292 ?_
      refine r_getR (k := 46) (o' := 1) (i' := 47) ckX10 rfl rfl (by decide) rfl rfl rfl fl_X10_89 dX10_lifts_293 ?_
      refine r_iload (k := 3) rfl dX10_lifts_296 ?_
      obtain ⟨c7, H⟩ := H
      refine r_iald rfl rfl rfl c7 dX10_lifts_298 ?_
      obtain ⟨c8, H⟩ := H
      refine r_iald rfl rfl rfl c8 dX10_lifts_299 ?_
      refine r_aload_n (k := 0) rfl rfl dX10_lifts_300 ?_
      refine r_iload (k := 3) rfl dX10_lifts_301 ?_
      refine r_callV (g := mX10_lastTold) ckX10 rfl rfl rfl rfl mkX10_lastTold mvX10_lastTold ml_X10_335 ⟨by decide, by decide⟩ rfl (Nat.le_of_ble_eq_true rfl) rfl (ok_i g5 ok_n) dX10_lifts_303 (sl_afterI (sl_RI.mono (fun y10 M9 gy10 hM9 H => ?_) H))
      refine r_iload (k := 2) rfl dX10_lifts_306 ?_
      refine r_aload_n (k := 0) rfl rfl dX10_lifts_308 ?_
      refine r_aload_n (k := 0) rfl rfl dX10_lifts_309 ?_
      refine r_getR (k := 0) (o' := 1) (i' := 1) ckX10 rfl rfl (by decide) rfl rfl rfl fl_X10_7 dX10_lifts_310 ?_
      refine r_sipush dX10_lifts_313 (by decide) ?_
      refine r_iload (k := 2) rfl dX10_lifts_316 ?_
      refine r_iadd dX10_lifts_318 ?_
      obtain ⟨c11, H⟩ := H
      refine r_iald rfl rfl rfl c11 dX10_lifts_319 ?_
      refine r_iload (k := 3) rfl dX10_lifts_320 ?_
      refine r_callV (g := mX10_answeredList) ckX10 rfl rfl rfl rfl mkX10_answeredList mvX10_answeredList ml_X10_338 ⟨by decide, by decide⟩ rfl (Nat.le_of_ble_eq_true rfl) rfl (ok_i (hM9 _ _ _) (ok_i g5 ok_n)) dX10_lifts_322 (sl_afterI (sl_RI.mono (fun y13 M12 gy13 hM12 H => ?_) H))
      refine r_aload_n (k := 0) rfl rfl dX10_lifts_325 ?_
      refine r_aload_n (k := 0) rfl rfl dX10_lifts_326 ?_
      refine r_getR (k := 0) (o' := 1) (i' := 1) ckX10 rfl rfl (by decide) rfl rfl rfl fl_X10_7 dX10_lifts_327 ?_
      refine r_sipush dX10_lifts_330 (by decide) ?_
      refine r_iload (k := 2) rfl dX10_lifts_333 ?_
      refine r_iadd dX10_lifts_335 ?_
      obtain ⟨c14, H⟩ := H
      refine r_iald rfl rfl rfl c14 dX10_lifts_336 ?_
      refine r_iload (k := 3) rfl dX10_lifts_337 ?_
      refine r_callV (g := mX10_answeredList) ckX10 rfl rfl rfl rfl mkX10_answeredList mvX10_answeredList ml_X10_338 ⟨by decide, by decide⟩ rfl (Nat.le_of_ble_eq_true rfl) rfl (ok_i (hM12 _ _ _) (ok_i g5 ok_n)) dX10_lifts_339 (sl_afterI (sl_RI.mono (fun y16 M15 gy16 hM15 H => ?_) H))
      refine r_callV (g := mX10_calls) ckX10 rfl rfl rfl rfl mkX10_calls mvX10_calls ml_X10_331 ⟨by decide, by decide⟩ rfl (Nat.le_of_ble_eq_true rfl) rfl (ok_i (hM _ _ _) (ok_i gy10 (ok_i g4 (ok_i gy13 (ok_i gy16 ok_n))))) dX10_lifts_342 (sl_afterV (sl_RV.mono (fun M17 hM17 H => ?_) H))
      obtain ⟨c18, H⟩ := H
      refine r_iinc (k := 3) (ls' := [(5, vI (x5 + 1)), (0, vR 1 0), (3, vI x3), (4, vI x4)]) rfl c18 (by decide) rfl dX10_lifts_345 ?_
      refine r_goto (tgt := 273) dX10_lifts_348 (by decide) ?_
      exact sl_At.sub [1, 2, 3, 0] rfl H
theorem eX10_lifts {l : Launch} {M : sl_M} {Q : sl_R} {x1 x2 x3 : Int} (k : sl_At l mX10_lifts 0 [(0, vR 1 0), (1, vI x1), (2, vI x2), (3, vI x3)] [] M Q) : sl_Runs l mX10_lifts [vR 1 0, vI x1, vI x2, vI x3] M Q := sl_Runs.of (ls := [(0, vR 1 0), (1, vI x1), (2, vI x2), (3, vI x3)]) rfl rfl (fun _ => rfl) (fun _ => Nat.le_of_ble_eq_true rfl) rfl (k)
