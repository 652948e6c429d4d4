/-! Constructors: the walks -/
theorem nle {a b : Nat} (h : Nat.ble a b = true := by rfl) : a ≤ b := Nat.le_of_ble_eq_true h
set_option maxHeartbeats 4000000 in
set_option maxRecDepth 20000 in
theorem ct_X4 {l : Launch} {n h : Nat} {S : Nat → Sh} (hh : h < n) (_ : Tp S n (tplX4 n)) : CT l iX4 0 0 n h (shU S h (.inr (4, []))) (shU S h (.inr (4, fflX4 n))) := by
  refine CT.of (by decide +kernel) rfl rfl rfl (by decide) (fun G base => ?_)
  refine tc_aload (v := .null) (i := 0) rfl dX4_init_0 ?_
  refine tc_objInit ol_X4_3 oi_m oi_c nle nle dX4_init_1 ?_
  exact tc_ret (n := n) (k := 0) (w := 0) (S := (shU S h (.inr (4, [])))) rfl rfl rfl (fun j _ => rfl) dX4_init_4
set_option maxHeartbeats 4000000 in
set_option maxRecDepth 20000 in
theorem ct_X2 {l : Launch} {n h : Nat} {S : Nat → Sh} (hh : h < n) (hS : Tp S n (tplX2 n)) : CT l iX2 1 8 n h (shU S h (.inr (2, []))) (shU S h (.inr (2, fflX2 n))) := by
  refine CT.of (by decide +kernel) rfl rfl rfl (by decide) (fun G base => ?_)
  refine tc_aload (v := .null) (i := 0) rfl dX2_init_0 ?_
  refine tc_objInit ol_X2_3 oi_m oi_c nle nle dX2_init_1 ?_
  refine tc_aload (v := .null) (i := 0) rfl dX2_init_4 ?_
  refine tc_bipush (v := 8) dX2_init_5 (by decide) ?_
  refine tc_newi (n := n) (S := (shU S h (.inr (2, [])))) (k := 0) (w := 0) (M := 8) w_ai (by decide) (by decide) nle nle nle (((shU_n (by omega)).trans (hS.at 0 rfl))) dX2_init_7 ?_
  refine tc_putF (n := n + 1) (ci := 2) (h := h) (v := n) (kf := 0) (fs := []) (fs2 := [n + 1, 0]) (S := (shU S h (.inr (2, [])))) (S2 := (shU S h (.inr (2, [n + 1, 0])))) ckX2 (by decide) rfl rfl rfl pf_X2_9 (fun _ => rfl) (fun _ => rfl) (by omega) shU_e shU_e (fun j _ z => by rw [shU_n z, shU_n z]) (fsS_ok rfl) dX2_init_9 ?_
  exact tc_ret (n := n + 1) (k := 1) (w := 8) (S := (shU S h (.inr (2, [n + 1, 0])))) rfl rfl rfl (fun j _ => rfl) dX2_init_12
set_option maxHeartbeats 4000000 in
set_option maxRecDepth 20000 in
theorem ct_X6 {l : Launch} {n h : Nat} {S : Nat → Sh} (hh : h < n) (hS : Tp S n (tplX6 n)) : CT l iX6 2 18 n h (shU S h (.inr (6, []))) (shU S h (.inr (6, fflX6 n))) := by
  refine CT.of (by decide +kernel) rfl rfl rfl (by decide) (fun G base => ?_)
  refine tc_aload (v := .null) (i := 0) rfl dX6_init_0 ?_
  refine tc_objInit ol_X6_3 oi_m oi_c nle nle dX6_init_1 ?_
  refine tc_aload (v := .null) (i := 0) rfl dX6_init_4 ?_
  refine tc_bipush (v := 9) dX6_init_5 (by decide) ?_
  refine tc_newi (n := n) (S := (shU S h (.inr (6, [])))) (k := 0) (w := 0) (M := 9) w_ai (by decide) (by decide) nle nle nle (((shU_n (by omega)).trans (hS.at 0 rfl))) dX6_init_7 ?_
  refine tc_putF (n := n + 1) (ci := 6) (h := h) (v := n) (kf := 7) (fs := []) (fs2 := [0, 0, 0, 0, 0, 0, 0, n + 1, 0]) (S := (shU S h (.inr (6, [])))) (S2 := (shU S h (.inr (6, [0, 0, 0, 0, 0, 0, 0, n + 1, 0])))) ckX6 (by decide) rfl rfl rfl pf_X6_9 (fun _ => rfl) (fun _ => rfl) (by omega) shU_e shU_e (fun j _ z => by rw [shU_n z, shU_n z]) (fsS_ok rfl) dX6_init_9 ?_
  refine tc_aload (v := .null) (i := 0) rfl dX6_init_12 ?_
  refine tc_bipush (v := 9) dX6_init_13 (by decide) ?_
  refine tc_newi (n := n + 1) (S := (shU S h (.inr (6, [0, 0, 0, 0, 0, 0, 0, n + 1, 0])))) (k := 1) (w := 9) (M := 9) w_ai (by decide) (by decide) nle nle nle (((shU_n (by omega)).trans (hS.at 1 rfl))) dX6_init_15 ?_
  refine tc_putF (n := n + 2) (ci := 6) (h := h) (v := n + 1) (kf := 8) (fs := [0, 0, 0, 0, 0, 0, 0, n + 1, 0]) (fs2 := [0, 0, 0, 0, 0, 0, 0, n + 1, n + 2]) (S := (shU S h (.inr (6, [0, 0, 0, 0, 0, 0, 0, n + 1, 0])))) (S2 := (shU S h (.inr (6, [0, 0, 0, 0, 0, 0, 0, n + 1, n + 2])))) ckX6 (by decide) rfl rfl rfl pf_X6_15 (fun _ => rfl) (fun _ => rfl) (by omega) shU_e shU_e (fun j _ z => by rw [shU_n z, shU_n z]) (fsS_ok rfl) dX6_init_17 ?_
  exact tc_ret (n := n + 2) (k := 2) (w := 18) (S := (shU S h (.inr (6, [0, 0, 0, 0, 0, 0, 0, n + 1, n + 2])))) rfl rfl rfl (fun j _ => rfl) dX6_init_20
set_option maxHeartbeats 4000000 in
set_option maxRecDepth 20000 in
theorem ct_X0 {l : Launch} {n h : Nat} {S : Nat → Sh} (hh : h < n) (hS : Tp S n (tplX0 n)) : CT l iX0 11 560 n h (shU S h (.inr (0, []))) (shU S h (.inr (0, fflX0 n))) := by
  refine CT.of (by decide +kernel) rfl rfl rfl (by decide) (fun G base => ?_)
  refine tc_aload (v := .null) (i := 0) rfl dX0_init_0 ?_
  refine tc_objInit ol_X0_3 oi_m oi_c nle nle dX0_init_1 ?_
  refine tc_aload (v := .null) (i := 0) rfl dX0_init_4 ?_
  refine tc_bipush (v := 40) dX0_init_5 (by decide) ?_
  refine tc_newi (n := n) (S := (shU S h (.inr (0, [])))) (k := 0) (w := 0) (M := 40) w_ai (by decide) (by decide) nle nle nle (((shU_n (by omega)).trans (hS.at 0 rfl))) dX0_init_7 ?_
  refine tc_putF (n := n + 1) (ci := 0) (h := h) (v := n) (kf := 0) (fs := []) (fs2 := [n + 1, 0, 0, 0, 0, 0, 0, 0, 0, 0, 0, 0, 0]) (S := (shU S h (.inr (0, [])))) (S2 := (shU S h (.inr (0, [n + 1, 0, 0, 0, 0, 0, 0, 0, 0, 0, 0, 0, 0])))) ckX0 (by decide) rfl rfl rfl pf_X0_9 (fun _ => rfl) (fun _ => rfl) (by omega) shU_e shU_e (fun j _ z => by rw [shU_n z, shU_n z]) (fsS_ok rfl) dX0_init_9 ?_
  refine tc_aload (v := .null) (i := 0) rfl dX0_init_12 ?_
  refine tc_bipush (v := 40) dX0_init_13 (by decide) ?_
  refine tc_newi (n := n + 1) (S := (shU S h (.inr (0, [n + 1, 0, 0, 0, 0, 0, 0, 0, 0, 0, 0, 0, 0])))) (k := 1) (w := 40) (M := 40) w_ai (by decide) (by decide) nle nle nle (((shU_n (by omega)).trans (hS.at 1 rfl))) dX0_init_15 ?_
  refine tc_putF (n := n + 2) (ci := 0) (h := h) (v := n + 1) (kf := 1) (fs := [n + 1, 0, 0, 0, 0, 0, 0, 0, 0, 0, 0, 0, 0]) (fs2 := [n + 1, n + 2, 0, 0, 0, 0, 0, 0, 0, 0, 0, 0, 0]) (S := (shU S h (.inr (0, [n + 1, 0, 0, 0, 0, 0, 0, 0, 0, 0, 0, 0, 0])))) (S2 := (shU S h (.inr (0, [n + 1, n + 2, 0, 0, 0, 0, 0, 0, 0, 0, 0, 0, 0])))) ckX0 (by decide) rfl rfl rfl pf_X0_15 (fun _ => rfl) (fun _ => rfl) (by omega) shU_e shU_e (fun j _ z => by rw [shU_n z, shU_n z]) (fsS_ok rfl) dX0_init_17 ?_
  refine tc_aload (v := .null) (i := 0) rfl dX0_init_20 ?_
  refine tc_bipush (v := 40) dX0_init_21 (by decide) ?_
  refine tc_newi (n := n + 2) (S := (shU S h (.inr (0, [n + 1, n + 2, 0, 0, 0, 0, 0, 0, 0, 0, 0, 0, 0])))) (k := 2) (w := 80) (M := 40) w_ai (by decide) (by decide) nle nle nle (((shU_n (by omega)).trans (hS.at 2 rfl))) dX0_init_23 ?_
  refine tc_putF (n := n + 3) (ci := 0) (h := h) (v := n + 2) (kf := 2) (fs := [n + 1, n + 2, 0, 0, 0, 0, 0, 0, 0, 0, 0, 0, 0]) (fs2 := [n + 1, n + 2, n + 3, 0, 0, 0, 0, 0, 0, 0, 0, 0, 0]) (S := (shU S h (.inr (0, [n + 1, n + 2, 0, 0, 0, 0, 0, 0, 0, 0, 0, 0, 0])))) (S2 := (shU S h (.inr (0, [n + 1, n + 2, n + 3, 0, 0, 0, 0, 0, 0, 0, 0, 0, 0])))) ckX0 (by decide) rfl rfl rfl pf_X0_18 (fun _ => rfl) (fun _ => rfl) (by omega) shU_e shU_e (fun j _ z => by rw [shU_n z, shU_n z]) (fsS_ok rfl) dX0_init_25 ?_
  refine tc_aload (v := .null) (i := 0) rfl dX0_init_28 ?_
  refine tc_bipush (v := 40) dX0_init_29 (by decide) ?_
  refine tc_newi (n := n + 3) (S := (shU S h (.inr (0, [n + 1, n + 2, n + 3, 0, 0, 0, 0, 0, 0, 0, 0, 0, 0])))) (k := 3) (w := 120) (M := 40) w_ai (by decide) (by decide) nle nle nle (((shU_n (by omega)).trans (hS.at 3 rfl))) dX0_init_31 ?_
  refine tc_putF (n := n + 4) (ci := 0) (h := h) (v := n + 3) (kf := 3) (fs := [n + 1, n + 2, n + 3, 0, 0, 0, 0, 0, 0, 0, 0, 0, 0]) (fs2 := [n + 1, n + 2, n + 3, n + 4, 0, 0, 0, 0, 0, 0, 0, 0, 0]) (S := (shU S h (.inr (0, [n + 1, n + 2, n + 3, 0, 0, 0, 0, 0, 0, 0, 0, 0, 0])))) (S2 := (shU S h (.inr (0, [n + 1, n + 2, n + 3, n + 4, 0, 0, 0, 0, 0, 0, 0, 0, 0])))) ckX0 (by decide) rfl rfl rfl pf_X0_21 (fun _ => rfl) (fun _ => rfl) (by omega) shU_e shU_e (fun j _ z => by rw [shU_n z, shU_n z]) (fsS_ok rfl) dX0_init_33 ?_
  refine tc_aload (v := .null) (i := 0) rfl dX0_init_36 ?_
  refine tc_bipush (v := 40) dX0_init_37 (by decide) ?_
  refine tc_newi (n := n + 4) (S := (shU S h (.inr (0, [n + 1, n + 2, n + 3, n + 4, 0, 0, 0, 0, 0, 0, 0, 0, 0])))) (k := 4) (w := 160) (M := 40) w_ai (by decide) (by decide) nle nle nle (((shU_n (by omega)).trans (hS.at 4 rfl))) dX0_init_39 ?_
  refine tc_putF (n := n + 5) (ci := 0) (h := h) (v := n + 4) (kf := 4) (fs := [n + 1, n + 2, n + 3, n + 4, 0, 0, 0, 0, 0, 0, 0, 0, 0]) (fs2 := [n + 1, n + 2, n + 3, n + 4, n + 5, 0, 0, 0, 0, 0, 0, 0, 0]) (S := (shU S h (.inr (0, [n + 1, n + 2, n + 3, n + 4, 0, 0, 0, 0, 0, 0, 0, 0, 0])))) (S2 := (shU S h (.inr (0, [n + 1, n + 2, n + 3, n + 4, n + 5, 0, 0, 0, 0, 0, 0, 0, 0])))) ckX0 (by decide) rfl rfl rfl pf_X0_24 (fun _ => rfl) (fun _ => rfl) (by omega) shU_e shU_e (fun j _ z => by rw [shU_n z, shU_n z]) (fsS_ok rfl) dX0_init_41 ?_
  refine tc_aload (v := .null) (i := 0) rfl dX0_init_44 ?_
  refine tc_bipush (v := 40) dX0_init_45 (by decide) ?_
  refine tc_newi (n := n + 5) (S := (shU S h (.inr (0, [n + 1, n + 2, n + 3, n + 4, n + 5, 0, 0, 0, 0, 0, 0, 0, 0])))) (k := 5) (w := 200) (M := 40) w_ai (by decide) (by decide) nle nle nle (((shU_n (by omega)).trans (hS.at 5 rfl))) dX0_init_47 ?_
  refine tc_putF (n := n + 6) (ci := 0) (h := h) (v := n + 5) (kf := 5) (fs := [n + 1, n + 2, n + 3, n + 4, n + 5, 0, 0, 0, 0, 0, 0, 0, 0]) (fs2 := [n + 1, n + 2, n + 3, n + 4, n + 5, n + 6, 0, 0, 0, 0, 0, 0, 0]) (S := (shU S h (.inr (0, [n + 1, n + 2, n + 3, n + 4, n + 5, 0, 0, 0, 0, 0, 0, 0, 0])))) (S2 := (shU S h (.inr (0, [n + 1, n + 2, n + 3, n + 4, n + 5, n + 6, 0, 0, 0, 0, 0, 0, 0])))) ckX0 (by decide) rfl rfl rfl pf_X0_27 (fun _ => rfl) (fun _ => rfl) (by omega) shU_e shU_e (fun j _ z => by rw [shU_n z, shU_n z]) (fsS_ok rfl) dX0_init_49 ?_
  refine tc_aload (v := .null) (i := 0) rfl dX0_init_52 ?_
  refine tc_bipush (v := 40) dX0_init_53 (by decide) ?_
  refine tc_newi (n := n + 6) (S := (shU S h (.inr (0, [n + 1, n + 2, n + 3, n + 4, n + 5, n + 6, 0, 0, 0, 0, 0, 0, 0])))) (k := 6) (w := 240) (M := 40) w_ai (by decide) (by decide) nle nle nle (((shU_n (by omega)).trans (hS.at 6 rfl))) dX0_init_55 ?_
  refine tc_putF (n := n + 7) (ci := 0) (h := h) (v := n + 6) (kf := 6) (fs := [n + 1, n + 2, n + 3, n + 4, n + 5, n + 6, 0, 0, 0, 0, 0, 0, 0]) (fs2 := [n + 1, n + 2, n + 3, n + 4, n + 5, n + 6, n + 7, 0, 0, 0, 0, 0, 0]) (S := (shU S h (.inr (0, [n + 1, n + 2, n + 3, n + 4, n + 5, n + 6, 0, 0, 0, 0, 0, 0, 0])))) (S2 := (shU S h (.inr (0, [n + 1, n + 2, n + 3, n + 4, n + 5, n + 6, n + 7, 0, 0, 0, 0, 0, 0])))) ckX0 (by decide) rfl rfl rfl pf_X0_30 (fun _ => rfl) (fun _ => rfl) (by omega) shU_e shU_e (fun j _ z => by rw [shU_n z, shU_n z]) (fsS_ok rfl) dX0_init_57 ?_
  refine tc_aload (v := .null) (i := 0) rfl dX0_init_60 ?_
  refine tc_bipush (v := 40) dX0_init_61 (by decide) ?_
  refine tc_newi (n := n + 7) (S := (shU S h (.inr (0, [n + 1, n + 2, n + 3, n + 4, n + 5, n + 6, n + 7, 0, 0, 0, 0, 0, 0])))) (k := 7) (w := 280) (M := 40) w_ai (by decide) (by decide) nle nle nle (((shU_n (by omega)).trans (hS.at 7 rfl))) dX0_init_63 ?_
  refine tc_putF (n := n + 8) (ci := 0) (h := h) (v := n + 7) (kf := 7) (fs := [n + 1, n + 2, n + 3, n + 4, n + 5, n + 6, n + 7, 0, 0, 0, 0, 0, 0]) (fs2 := [n + 1, n + 2, n + 3, n + 4, n + 5, n + 6, n + 7, n + 8, 0, 0, 0, 0, 0]) (S := (shU S h (.inr (0, [n + 1, n + 2, n + 3, n + 4, n + 5, n + 6, n + 7, 0, 0, 0, 0, 0, 0])))) (S2 := (shU S h (.inr (0, [n + 1, n + 2, n + 3, n + 4, n + 5, n + 6, n + 7, n + 8, 0, 0, 0, 0, 0])))) ckX0 (by decide) rfl rfl rfl pf_X0_33 (fun _ => rfl) (fun _ => rfl) (by omega) shU_e shU_e (fun j _ z => by rw [shU_n z, shU_n z]) (fsS_ok rfl) dX0_init_65 ?_
  refine tc_aload (v := .null) (i := 0) rfl dX0_init_68 ?_
  refine tc_bipush (v := 40) dX0_init_69 (by decide) ?_
  refine tc_newi (n := n + 8) (S := (shU S h (.inr (0, [n + 1, n + 2, n + 3, n + 4, n + 5, n + 6, n + 7, n + 8, 0, 0, 0, 0, 0])))) (k := 8) (w := 320) (M := 40) w_ai (by decide) (by decide) nle nle nle (((shU_n (by omega)).trans (hS.at 8 rfl))) dX0_init_71 ?_
  refine tc_putF (n := n + 9) (ci := 0) (h := h) (v := n + 8) (kf := 8) (fs := [n + 1, n + 2, n + 3, n + 4, n + 5, n + 6, n + 7, n + 8, 0, 0, 0, 0, 0]) (fs2 := [n + 1, n + 2, n + 3, n + 4, n + 5, n + 6, n + 7, n + 8, n + 9, 0, 0, 0, 0]) (S := (shU S h (.inr (0, [n + 1, n + 2, n + 3, n + 4, n + 5, n + 6, n + 7, n + 8, 0, 0, 0, 0, 0])))) (S2 := (shU S h (.inr (0, [n + 1, n + 2, n + 3, n + 4, n + 5, n + 6, n + 7, n + 8, n + 9, 0, 0, 0, 0])))) ckX0 (by decide) rfl rfl rfl pf_X0_36 (fun _ => rfl) (fun _ => rfl) (by omega) shU_e shU_e (fun j _ z => by rw [shU_n z, shU_n z]) (fsS_ok rfl) dX0_init_73 ?_
  refine tc_aload (v := .null) (i := 0) rfl dX0_init_76 ?_
  refine tc_bipush (v := 40) dX0_init_77 (by decide) ?_
  refine tc_newi (n := n + 9) (S := (shU S h (.inr (0, [n + 1, n + 2, n + 3, n + 4, n + 5, n + 6, n + 7, n + 8, n + 9, 0, 0, 0, 0])))) (k := 9) (w := 360) (M := 40) w_ai (by decide) (by decide) nle nle nle (((shU_n (by omega)).trans (hS.at 9 rfl))) dX0_init_79 ?_
  refine tc_putF (n := n + 10) (ci := 0) (h := h) (v := n + 9) (kf := 9) (fs := [n + 1, n + 2, n + 3, n + 4, n + 5, n + 6, n + 7, n + 8, n + 9, 0, 0, 0, 0]) (fs2 := [n + 1, n + 2, n + 3, n + 4, n + 5, n + 6, n + 7, n + 8, n + 9, n + 10, 0, 0, 0]) (S := (shU S h (.inr (0, [n + 1, n + 2, n + 3, n + 4, n + 5, n + 6, n + 7, n + 8, n + 9, 0, 0, 0, 0])))) (S2 := (shU S h (.inr (0, [n + 1, n + 2, n + 3, n + 4, n + 5, n + 6, n + 7, n + 8, n + 9, n + 10, 0, 0, 0])))) ckX0 (by decide) rfl rfl rfl pf_X0_39 (fun _ => rfl) (fun _ => rfl) (by omega) shU_e shU_e (fun j _ z => by rw [shU_n z, shU_n z]) (fsS_ok rfl) dX0_init_81 ?_
  refine tc_aload (v := .null) (i := 0) rfl dX0_init_84 ?_
  refine tc_sipush (v := 160) dX0_init_85 (by decide) ?_
  refine tc_newi (n := n + 10) (S := (shU S h (.inr (0, [n + 1, n + 2, n + 3, n + 4, n + 5, n + 6, n + 7, n + 8, n + 9, n + 10, 0, 0, 0])))) (k := 10) (w := 400) (M := 160) w_ai (by decide) (by decide) nle nle nle (((shU_n (by omega)).trans (hS.at 10 rfl))) dX0_init_88 ?_
  refine tc_putF (n := n + 11) (ci := 0) (h := h) (v := n + 10) (kf := 10) (fs := [n + 1, n + 2, n + 3, n + 4, n + 5, n + 6, n + 7, n + 8, n + 9, n + 10, 0, 0, 0]) (fs2 := [n + 1, n + 2, n + 3, n + 4, n + 5, n + 6, n + 7, n + 8, n + 9, n + 10, n + 11, 0, 0]) (S := (shU S h (.inr (0, [n + 1, n + 2, n + 3, n + 4, n + 5, n + 6, n + 7, n + 8, n + 9, n + 10, 0, 0, 0])))) (S2 := (shU S h (.inr (0, [n + 1, n + 2, n + 3, n + 4, n + 5, n + 6, n + 7, n + 8, n + 9, n + 10, n + 11, 0, 0])))) ckX0 (by decide) rfl rfl rfl pf_X0_42 (fun _ => rfl) (fun _ => rfl) (by omega) shU_e shU_e (fun j _ z => by rw [shU_n z, shU_n z]) (fsS_ok rfl) dX0_init_90 ?_
  exact tc_ret (n := n + 11) (k := 11) (w := 560) (S := (shU S h (.inr (0, [n + 1, n + 2, n + 3, n + 4, n + 5, n + 6, n + 7, n + 8, n + 9, n + 10, n + 11, 0, 0])))) rfl rfl rfl (fun j _ => rfl) dX0_init_93
set_option maxHeartbeats 4000000 in
set_option maxRecDepth 20000 in
theorem ct_X1 {l : Launch} {n h : Nat} {S : Nat → Sh} (hh : h < n) (hS : Tp S n (tplX1 n)) : CT l iX1 4 129 n h (shU S h (.inr (1, []))) (shU S h (.inr (1, fflX1 n))) := by
  refine CT.of (by decide +kernel) rfl rfl rfl (by decide) (fun G base => ?_)
  refine tc_aload (v := .null) (i := 0) rfl dX1_init_0 ?_
  refine tc_objInit ol_X1_3 oi_m oi_c nle nle dX1_init_1 ?_
  refine tc_aload (v := .null) (i := 0) rfl dX1_init_4 ?_
  refine tc_bipush (v := 40) dX1_init_5 (by decide) ?_
  refine tc_newi (n := n) (S := (shU S h (.inr (1, [])))) (k := 0) (w := 0) (M := 40) w_ai (by decide) (by decide) nle nle nle (((shU_n (by omega)).trans (hS.at 0 rfl))) dX1_init_7 ?_
  refine tc_putF (n := n + 1) (ci := 1) (h := h) (v := n) (kf := 2) (fs := []) (fs2 := [0, 0, n + 1, 0, 0, 0]) (S := (shU S h (.inr (1, [])))) (S2 := (shU S h (.inr (1, [0, 0, n + 1, 0, 0, 0])))) ckX1 (by decide) rfl rfl rfl pf_X1_9 (fun _ => rfl) (fun _ => rfl) (by omega) shU_e shU_e (fun j _ z => by rw [shU_n z, shU_n z]) (fsS_ok rfl) dX1_init_9 ?_
  refine tc_aload (v := .null) (i := 0) rfl dX1_init_12 ?_
  refine tc_bipush (v := 40) dX1_init_13 (by decide) ?_
  refine tc_newi (n := n + 1) (S := (shU S h (.inr (1, [0, 0, n + 1, 0, 0, 0])))) (k := 1) (w := 40) (M := 40) w_ai (by decide) (by decide) nle nle nle (((shU_n (by omega)).trans (hS.at 1 rfl))) dX1_init_15 ?_
  refine tc_putF (n := n + 2) (ci := 1) (h := h) (v := n + 1) (kf := 3) (fs := [0, 0, n + 1, 0, 0, 0]) (fs2 := [0, 0, n + 1, n + 2, 0, 0]) (S := (shU S h (.inr (1, [0, 0, n + 1, 0, 0, 0])))) (S2 := (shU S h (.inr (1, [0, 0, n + 1, n + 2, 0, 0])))) ckX1 (by decide) rfl rfl rfl pf_X1_15 (fun _ => rfl) (fun _ => rfl) (by omega) shU_e shU_e (fun j _ z => by rw [shU_n z, shU_n z]) (fsS_ok rfl) dX1_init_17 ?_
  refine tc_aload (v := .null) (i := 0) rfl dX1_init_20 ?_
  refine tc_bipush (v := 40) dX1_init_21 (by decide) ?_
  refine tc_newi (n := n + 2) (S := (shU S h (.inr (1, [0, 0, n + 1, n + 2, 0, 0])))) (k := 2) (w := 80) (M := 40) w_ai (by decide) (by decide) nle nle nle (((shU_n (by omega)).trans (hS.at 2 rfl))) dX1_init_23 ?_
  refine tc_putF (n := n + 3) (ci := 1) (h := h) (v := n + 2) (kf := 4) (fs := [0, 0, n + 1, n + 2, 0, 0]) (fs2 := [0, 0, n + 1, n + 2, n + 3, 0]) (S := (shU S h (.inr (1, [0, 0, n + 1, n + 2, 0, 0])))) (S2 := (shU S h (.inr (1, [0, 0, n + 1, n + 2, n + 3, 0])))) ckX1 (by decide) rfl rfl rfl pf_X1_18 (fun _ => rfl) (fun _ => rfl) (by omega) shU_e shU_e (fun j _ z => by rw [shU_n z, shU_n z]) (fsS_ok rfl) dX1_init_25 ?_
  refine tc_aload (v := .null) (i := 0) rfl dX1_init_28 ?_
  refine tc_bipush (v := 9) dX1_init_29 (by decide) ?_
  refine tc_newi (n := n + 3) (S := (shU S h (.inr (1, [0, 0, n + 1, n + 2, n + 3, 0])))) (k := 3) (w := 120) (M := 9) w_ai (by decide) (by decide) nle nle nle (((shU_n (by omega)).trans (hS.at 3 rfl))) dX1_init_31 ?_
  refine tc_putF (n := n + 4) (ci := 1) (h := h) (v := n + 3) (kf := 5) (fs := [0, 0, n + 1, n + 2, n + 3, 0]) (fs2 := [0, 0, n + 1, n + 2, n + 3, n + 4]) (S := (shU S h (.inr (1, [0, 0, n + 1, n + 2, n + 3, 0])))) (S2 := (shU S h (.inr (1, [0, 0, n + 1, n + 2, n + 3, n + 4])))) ckX1 (by decide) rfl rfl rfl pf_X1_21 (fun _ => rfl) (fun _ => rfl) (by omega) shU_e shU_e (fun j _ z => by rw [shU_n z, shU_n z]) (fsS_ok rfl) dX1_init_33 ?_
  exact tc_ret (n := n + 4) (k := 4) (w := 129) (S := (shU S h (.inr (1, [0, 0, n + 1, n + 2, n + 3, n + 4])))) rfl rfl rfl (fun j _ => rfl) dX1_init_36
set_option maxHeartbeats 4000000 in
set_option maxRecDepth 20000 in
theorem ct_X5 {l : Launch} {n h : Nat} {S : Nat → Sh} (hh : h < n) (hS : Tp S n (tplX5 n)) : CT l iX5 13 582 n h (shU S h (.inr (5, []))) (shU S h (.inr (5, fflX5 n))) := by
  refine CT.of (by decide +kernel) rfl rfl rfl (by decide) (fun G base => ?_)
  refine tc_aload (v := .null) (i := 0) rfl dX5_init_0 ?_
  refine tc_objInit ol_X5_3 oi_m oi_c nle nle dX5_init_1 ?_
  refine tc_aload (v := .null) (i := 0) rfl dX5_init_4 ?_
  refine tc_as (n := n) (S := (shU S h (.inr (5, [])))) (S2 := shU (shU S h (.inr (5, []))) (n) (.inr (0, []))) (fun j hj => shU_n (by omega)) ?_
  refine tc_new (n := n) (S := shU (shU S h (.inr (5, []))) (n) (.inr (0, []))) (k := 0) (w := 0) (ci := 0) (M := 13) ckX0 ck_X5_9 isX0 iiX0 idX0 nle nle shU_e dX5_init_5 ?_
  refine tc_dup dX5_init_8 ?_
  refine tc_callN (n := n + 1) (g := iX0) (h := n) (mg := 11) (sg := 560) (k := 1) (w := 13) (S := shU (shU S h (.inr (5, []))) (n) (.inr (0, []))) (S2 := shU (shU S h (.inr (5, []))) (n) (.inr (0, fflX0 (n + 1)))) (ct_X0 (n := n + 1) (h := n) (S := (shU S h (.inr (5, [])))) (by omega) (Tp.up (hS.sub 1 11 rfl rfl) (by omega))) icX0 rfl iiX0 imX0 rfl ipX0 cm_X5_11 ⟨nle, nle⟩ nle nle nle dX5_init_9 ?_
  rw [shU_id (S := (shU S h (.inr (5, [])))) (h := n) (x := .inr (0, fflX0 (n + 1))) (((shU_n (by omega)).trans (hS.at 0 rfl)))]
  refine tc_putF (n := n + 12) (ci := 5) (h := h) (v := n) (kf := 0) (fs := []) (fs2 := [n + 1, 0, 0, 0, 0]) (S := (shU S h (.inr (5, [])))) (S2 := (shU S h (.inr (5, [n + 1, 0, 0, 0, 0])))) ckX5 (by decide) rfl rfl rfl pf_X5_12 (fun _ => rfl) (fun _ => rfl) (by omega) shU_e shU_e (fun j _ z => by rw [shU_n z, shU_n z]) (fsS_ok rfl) dX5_init_12 ?_
  refine tc_aload (v := .null) (i := 0) rfl dX5_init_15 ?_
  refine tc_bipush (v := 9) dX5_init_16 (by decide) ?_
  refine tc_newi (n := n + 12) (S := (shU S h (.inr (5, [n + 1, 0, 0, 0, 0])))) (k := 12) (w := 573) (M := 9) w_ai (by decide) (by decide) nle nle nle (((shU_n (by omega)).trans (hS.at 12 rfl))) dX5_init_18 ?_
  refine tc_putF (n := n + 13) (ci := 5) (h := h) (v := n + 12) (kf := 4) (fs := [n + 1, 0, 0, 0, 0]) (fs2 := [n + 1, 0, 0, 0, n + 13]) (S := (shU S h (.inr (5, [n + 1, 0, 0, 0, 0])))) (S2 := (shU S h (.inr (5, [n + 1, 0, 0, 0, n + 13])))) ckX5 (by decide) rfl rfl rfl pf_X5_18 (fun _ => rfl) (fun _ => rfl) (by omega) shU_e shU_e (fun j _ z => by rw [shU_n z, shU_n z]) (fsS_ok rfl) dX5_init_20 ?_
  exact tc_ret (n := n + 13) (k := 13) (w := 582) (S := (shU S h (.inr (5, [n + 1, 0, 0, 0, n + 13])))) rfl rfl rfl (fun j _ => rfl) dX5_init_23
set_option maxHeartbeats 4000000 in
set_option maxRecDepth 20000 in
theorem ct_X3 {l : Launch} {n h : Nat} {S : Nat → Sh} (hh : h < n) (hS : Tp S n (tplX3 n)) : CT l iX3 8 456 n h (shU S h (.inr (3, []))) (shU S h (.inr (3, fflX3 n))) := by
  refine CT.of (by decide +kernel) rfl rfl rfl (by decide) (fun G base => ?_)
  refine tc_aload (v := .null) (i := 0) rfl dX3_init_0 ?_
  refine tc_objInit ol_X3_3 oi_m oi_c nle nle dX3_init_1 ?_
  refine tc_aload (v := .null) (i := 0) rfl dX3_init_4 ?_
  refine tc_as (n := n) (S := (shU S h (.inr (3, [])))) (S2 := shU (shU S h (.inr (3, []))) (n) (.inr (2, []))) (fun j hj => shU_n (by omega)) ?_
  refine tc_new (n := n) (S := shU (shU S h (.inr (3, []))) (n) (.inr (2, []))) (k := 0) (w := 0) (ci := 2) (M := 2) ckX2 ck_X3_9 isX2 iiX2 idX2 nle nle shU_e dX3_init_5 ?_
  refine tc_dup dX3_init_8 ?_
  refine tc_callN (n := n + 1) (g := iX2) (h := n) (mg := 1) (sg := 8) (k := 1) (w := 2) (S := shU (shU S h (.inr (3, []))) (n) (.inr (2, []))) (S2 := shU (shU S h (.inr (3, []))) (n) (.inr (2, fflX2 (n + 1)))) (ct_X2 (n := n + 1) (h := n) (S := (shU S h (.inr (3, [])))) (by omega) (Tp.up (hS.sub 1 1 rfl rfl) (by omega))) icX2 rfl iiX2 imX2 rfl ipX2 cm_X3_11 ⟨nle, nle⟩ nle nle nle dX3_init_9 ?_
  rw [shU_id (S := (shU S h (.inr (3, [])))) (h := n) (x := .inr (2, fflX2 (n + 1))) (((shU_n (by omega)).trans (hS.at 0 rfl)))]
  refine tc_putF (n := n + 2) (ci := 3) (h := h) (v := n) (kf := 0) (fs := []) (fs2 := [n + 1, 0, 0, 0, 0, 0, 0, 0, 0, 0]) (S := (shU S h (.inr (3, [])))) (S2 := (shU S h (.inr (3, [n + 1, 0, 0, 0, 0, 0, 0, 0, 0, 0])))) ckX3 (by decide) rfl rfl rfl pf_X3_12 (fun _ => rfl) (fun _ => rfl) (by omega) shU_e shU_e (fun j _ z => by rw [shU_n z, shU_n z]) (fsS_ok rfl) dX3_init_12 ?_
  refine tc_aload (v := .null) (i := 0) rfl dX3_init_15 ?_
  refine tc_as (n := n + 2) (S := (shU S h (.inr (3, [n + 1, 0, 0, 0, 0, 0, 0, 0, 0, 0])))) (S2 := shU (shU S h (.inr (3, [n + 1, 0, 0, 0, 0, 0, 0, 0, 0, 0]))) (n + 2) (.inr (2, []))) (fun j hj => shU_n (by omega)) ?_
  refine tc_new (n := n + 2) (S := shU (shU S h (.inr (3, [n + 1, 0, 0, 0, 0, 0, 0, 0, 0, 0]))) (n + 2) (.inr (2, []))) (k := 2) (w := 10) (ci := 2) (M := 2) ckX2 ck_X3_9 isX2 iiX2 idX2 nle nle shU_e dX3_init_16 ?_
  refine tc_dup dX3_init_19 ?_
  refine tc_callN (n := n + 3) (g := iX2) (h := n + 2) (mg := 1) (sg := 8) (k := 3) (w := 12) (S := shU (shU S h (.inr (3, [n + 1, 0, 0, 0, 0, 0, 0, 0, 0, 0]))) (n + 2) (.inr (2, []))) (S2 := shU (shU S h (.inr (3, [n + 1, 0, 0, 0, 0, 0, 0, 0, 0, 0]))) (n + 2) (.inr (2, fflX2 (n + 3)))) (ct_X2 (n := n + 3) (h := n + 2) (S := (shU S h (.inr (3, [n + 1, 0, 0, 0, 0, 0, 0, 0, 0, 0])))) (by omega) (Tp.up (hS.sub 3 1 rfl rfl) (by omega))) icX2 rfl iiX2 imX2 rfl ipX2 cm_X3_11 ⟨nle, nle⟩ nle nle nle dX3_init_20 ?_
  rw [shU_id (S := (shU S h (.inr (3, [n + 1, 0, 0, 0, 0, 0, 0, 0, 0, 0])))) (h := n + 2) (x := .inr (2, fflX2 (n + 3))) (((shU_n (by omega)).trans (hS.at 2 rfl)))]
  refine tc_putF (n := n + 4) (ci := 3) (h := h) (v := n + 2) (kf := 1) (fs := [n + 1, 0, 0, 0, 0, 0, 0, 0, 0, 0]) (fs2 := [n + 1, n + 3, 0, 0, 0, 0, 0, 0, 0, 0]) (S := (shU S h (.inr (3, [n + 1, 0, 0, 0, 0, 0, 0, 0, 0, 0])))) (S2 := (shU S h (.inr (3, [n + 1, n + 3, 0, 0, 0, 0, 0, 0, 0, 0])))) ckX3 (by decide) rfl rfl rfl pf_X3_18 (fun _ => rfl) (fun _ => rfl) (by omega) shU_e shU_e (fun j _ z => by rw [shU_n z, shU_n z]) (fsS_ok rfl) dX3_init_23 ?_
  refine tc_aload (v := .null) (i := 0) rfl dX3_init_26 ?_
  refine tc_sipush (v := 400) dX3_init_27 (by decide) ?_
  refine tc_newi (n := n + 4) (S := (shU S h (.inr (3, [n + 1, n + 3, 0, 0, 0, 0, 0, 0, 0, 0])))) (k := 4) (w := 20) (M := 400) w_ai (by decide) (by decide) nle nle nle (((shU_n (by omega)).trans (hS.at 4 rfl))) dX3_init_30 ?_
  refine tc_putF (n := n + 5) (ci := 3) (h := h) (v := n + 4) (kf := 4) (fs := [n + 1, n + 3, 0, 0, 0, 0, 0, 0, 0, 0]) (fs2 := [n + 1, n + 3, 0, 0, n + 5, 0, 0, 0, 0, 0]) (S := (shU S h (.inr (3, [n + 1, n + 3, 0, 0, 0, 0, 0, 0, 0, 0])))) (S2 := (shU S h (.inr (3, [n + 1, n + 3, 0, 0, n + 5, 0, 0, 0, 0, 0])))) ckX3 (by decide) rfl rfl rfl pf_X3_21 (fun _ => rfl) (fun _ => rfl) (by omega) shU_e shU_e (fun j _ z => by rw [shU_n z, shU_n z]) (fsS_ok rfl) dX3_init_32 ?_
  refine tc_aload (v := .null) (i := 0) rfl dX3_init_35 ?_
  refine tc_bipush (v := 12) dX3_init_36 (by decide) ?_
  refine tc_newi (n := n + 5) (S := (shU S h (.inr (3, [n + 1, n + 3, 0, 0, n + 5, 0, 0, 0, 0, 0])))) (k := 5) (w := 420) (M := 12) w_ai (by decide) (by decide) nle nle nle (((shU_n (by omega)).trans (hS.at 5 rfl))) dX3_init_38 ?_
  refine tc_putF (n := n + 6) (ci := 3) (h := h) (v := n + 5) (kf := 7) (fs := [n + 1, n + 3, 0, 0, n + 5, 0, 0, 0, 0, 0]) (fs2 := [n + 1, n + 3, 0, 0, n + 5, 0, 0, n + 6, 0, 0]) (S := (shU S h (.inr (3, [n + 1, n + 3, 0, 0, n + 5, 0, 0, 0, 0, 0])))) (S2 := (shU S h (.inr (3, [n + 1, n + 3, 0, 0, n + 5, 0, 0, n + 6, 0, 0])))) ckX3 (by decide) rfl rfl rfl pf_X3_25 (fun _ => rfl) (fun _ => rfl) (by omega) shU_e shU_e (fun j _ z => by rw [shU_n z, shU_n z]) (fsS_ok rfl) dX3_init_40 ?_
  refine tc_aload (v := .null) (i := 0) rfl dX3_init_43 ?_
  refine tc_bipush (v := 12) dX3_init_44 (by decide) ?_
  refine tc_newi (n := n + 6) (S := (shU S h (.inr (3, [n + 1, n + 3, 0, 0, n + 5, 0, 0, n + 6, 0, 0])))) (k := 6) (w := 432) (M := 12) w_ai (by decide) (by decide) nle nle nle (((shU_n (by omega)).trans (hS.at 6 rfl))) dX3_init_46 ?_
  refine tc_putF (n := n + 7) (ci := 3) (h := h) (v := n + 6) (kf := 8) (fs := [n + 1, n + 3, 0, 0, n + 5, 0, 0, n + 6, 0, 0]) (fs2 := [n + 1, n + 3, 0, 0, n + 5, 0, 0, n + 6, n + 7, 0]) (S := (shU S h (.inr (3, [n + 1, n + 3, 0, 0, n + 5, 0, 0, n + 6, 0, 0])))) (S2 := (shU S h (.inr (3, [n + 1, n + 3, 0, 0, n + 5, 0, 0, n + 6, n + 7, 0])))) ckX3 (by decide) rfl rfl rfl pf_X3_28 (fun _ => rfl) (fun _ => rfl) (by omega) shU_e shU_e (fun j _ z => by rw [shU_n z, shU_n z]) (fsS_ok rfl) dX3_init_48 ?_
  refine tc_aload (v := .null) (i := 0) rfl dX3_init_51 ?_
  refine tc_bipush (v := 12) dX3_init_52 (by decide) ?_
  refine tc_newb (n := n + 7) (S := (shU S h (.inr (3, [n + 1, n + 3, 0, 0, n + 5, 0, 0, n + 6, n + 7, 0])))) (k := 7) (w := 444) (M := 12) w_ab (by decide) (by decide) nle nle nle (((shU_n (by omega)).trans (hS.at 7 rfl))) dX3_init_54 ?_
  refine tc_putF (n := n + 8) (ci := 3) (h := h) (v := n + 7) (kf := 9) (fs := [n + 1, n + 3, 0, 0, n + 5, 0, 0, n + 6, n + 7, 0]) (fs2 := [n + 1, n + 3, 0, 0, n + 5, 0, 0, n + 6, n + 7, n + 8]) (S := (shU S h (.inr (3, [n + 1, n + 3, 0, 0, n + 5, 0, 0, n + 6, n + 7, 0])))) (S2 := (shU S h (.inr (3, [n + 1, n + 3, 0, 0, n + 5, 0, 0, n + 6, n + 7, n + 8])))) ckX3 (by decide) rfl rfl rfl pf_X3_31 (fun _ => rfl) (fun _ => rfl) (by omega) shU_e shU_e (fun j _ z => by rw [shU_n z, shU_n z]) (fsS_ok rfl) dX3_init_56 ?_
  exact tc_ret (n := n + 8) (k := 8) (w := 456) (S := (shU S h (.inr (3, [n + 1, n + 3, 0, 0, n + 5, 0, 0, n + 6, n + 7, n + 8])))) rfl rfl rfl (fun j _ => rfl) dX3_init_59
set_option maxHeartbeats 4000000 in
set_option maxRecDepth 20000 in
theorem ct_X8 {l : Launch} {n h : Nat} {S : Nat → Sh} (hh : h < n) (hS : Tp S n (tplX8 n)) : CT l iX8 6 115 n h (shU S h (.inr (8, []))) (shU S h (.inr (8, fflX8 n))) := by
  refine CT.of (by decide +kernel) rfl rfl rfl (by decide) (fun G base => ?_)
  refine tc_aload (v := .null) (i := 0) rfl dX8_init_0 ?_
  refine tc_objInit ol_X8_3 oi_m oi_c nle nle dX8_init_1 ?_
  refine tc_aload (v := .null) (i := 0) rfl dX8_init_4 ?_
  refine tc_as (n := n) (S := (shU S h (.inr (8, [])))) (S2 := shU (shU S h (.inr (8, []))) (n) (.inr (6, []))) (fun j hj => shU_n (by omega)) ?_
  refine tc_new (n := n) (S := shU (shU S h (.inr (8, []))) (n) (.inr (6, []))) (k := 0) (w := 0) (ci := 6) (M := 9) ckX6 ck_X8_9 isX6 iiX6 idX6 nle nle shU_e dX8_init_5 ?_
  refine tc_dup dX8_init_8 ?_
  refine tc_callN (n := n + 1) (g := iX6) (h := n) (mg := 2) (sg := 18) (k := 1) (w := 9) (S := shU (shU S h (.inr (8, []))) (n) (.inr (6, []))) (S2 := shU (shU S h (.inr (8, []))) (n) (.inr (6, fflX6 (n + 1)))) (ct_X6 (n := n + 1) (h := n) (S := (shU S h (.inr (8, [])))) (by omega) (Tp.up (hS.sub 1 2 rfl rfl) (by omega))) icX6 rfl iiX6 imX6 rfl ipX6 cm_X8_11 ⟨nle, nle⟩ nle nle nle dX8_init_9 ?_
  rw [shU_id (S := (shU S h (.inr (8, [])))) (h := n) (x := .inr (6, fflX6 (n + 1))) (((shU_n (by omega)).trans (hS.at 0 rfl)))]
  refine tc_putF (n := n + 3) (ci := 8) (h := h) (v := n) (kf := 0) (fs := []) (fs2 := [n + 1, 0, 0, 0, 0, 0, 0]) (S := (shU S h (.inr (8, [])))) (S2 := (shU S h (.inr (8, [n + 1, 0, 0, 0, 0, 0, 0])))) ckX8 (by decide) rfl rfl rfl pf_X8_12 (fun _ => rfl) (fun _ => rfl) (by omega) shU_e shU_e (fun j _ z => by rw [shU_n z, shU_n z]) (fsS_ok rfl) dX8_init_12 ?_
  refine tc_aload (v := .null) (i := 0) rfl dX8_init_15 ?_
  refine tc_bipush (v := 8) dX8_init_16 (by decide) ?_
  refine tc_newi (n := n + 3) (S := (shU S h (.inr (8, [n + 1, 0, 0, 0, 0, 0, 0])))) (k := 3) (w := 27) (M := 8) w_ai (by decide) (by decide) nle nle nle (((shU_n (by omega)).trans (hS.at 3 rfl))) dX8_init_18 ?_
  refine tc_putF (n := n + 4) (ci := 8) (h := h) (v := n + 3) (kf := 1) (fs := [n + 1, 0, 0, 0, 0, 0, 0]) (fs2 := [n + 1, n + 4, 0, 0, 0, 0, 0]) (S := (shU S h (.inr (8, [n + 1, 0, 0, 0, 0, 0, 0])))) (S2 := (shU S h (.inr (8, [n + 1, n + 4, 0, 0, 0, 0, 0])))) ckX8 (by decide) rfl rfl rfl pf_X8_18 (fun _ => rfl) (fun _ => rfl) (by omega) shU_e shU_e (fun j _ z => by rw [shU_n z, shU_n z]) (fsS_ok rfl) dX8_init_20 ?_
  refine tc_aload (v := .null) (i := 0) rfl dX8_init_23 ?_
  refine tc_bipush (v := 40) dX8_init_24 (by decide) ?_
  refine tc_newi (n := n + 4) (S := (shU S h (.inr (8, [n + 1, n + 4, 0, 0, 0, 0, 0])))) (k := 4) (w := 35) (M := 40) w_ai (by decide) (by decide) nle nle nle (((shU_n (by omega)).trans (hS.at 4 rfl))) dX8_init_26 ?_
  refine tc_putF (n := n + 5) (ci := 8) (h := h) (v := n + 4) (kf := 3) (fs := [n + 1, n + 4, 0, 0, 0, 0, 0]) (fs2 := [n + 1, n + 4, 0, n + 5, 0, 0, 0]) (S := (shU S h (.inr (8, [n + 1, n + 4, 0, 0, 0, 0, 0])))) (S2 := (shU S h (.inr (8, [n + 1, n + 4, 0, n + 5, 0, 0, 0])))) ckX8 (by decide) rfl rfl rfl pf_X8_22 (fun _ => rfl) (fun _ => rfl) (by omega) shU_e shU_e (fun j _ z => by rw [shU_n z, shU_n z]) (fsS_ok rfl) dX8_init_28 ?_
  refine tc_aload (v := .null) (i := 0) rfl dX8_init_31 ?_
  refine tc_bipush (v := 40) dX8_init_32 (by decide) ?_
  refine tc_newi (n := n + 5) (S := (shU S h (.inr (8, [n + 1, n + 4, 0, n + 5, 0, 0, 0])))) (k := 5) (w := 75) (M := 40) w_ai (by decide) (by decide) nle nle nle (((shU_n (by omega)).trans (hS.at 5 rfl))) dX8_init_34 ?_
  refine tc_putF (n := n + 6) (ci := 8) (h := h) (v := n + 5) (kf := 4) (fs := [n + 1, n + 4, 0, n + 5, 0, 0, 0]) (fs2 := [n + 1, n + 4, 0, n + 5, n + 6, 0, 0]) (S := (shU S h (.inr (8, [n + 1, n + 4, 0, n + 5, 0, 0, 0])))) (S2 := (shU S h (.inr (8, [n + 1, n + 4, 0, n + 5, n + 6, 0, 0])))) ckX8 (by decide) rfl rfl rfl pf_X8_25 (fun _ => rfl) (fun _ => rfl) (by omega) shU_e shU_e (fun j _ z => by rw [shU_n z, shU_n z]) (fsS_ok rfl) dX8_init_36 ?_
  exact tc_ret (n := n + 6) (k := 6) (w := 115) (S := (shU S h (.inr (8, [n + 1, n + 4, 0, n + 5, n + 6, 0, 0])))) rfl rfl rfl (fun j _ => rfl) dX8_init_39
set_option maxHeartbeats 4000000 in
set_option maxRecDepth 20000 in
theorem ct_X7 {l : Launch} {n h : Nat} {S : Nat → Sh} (hh : h < n) (hS : Tp S n (tplX7 n)) : CT l iX7 56 2377 n h (shU S h (.inr (7, []))) (shU S h (.inr (7, fflX7 n))) := by
  refine CT.of (by decide +kernel) rfl rfl rfl (by decide) (fun G base => ?_)
  refine tc_aload (v := .null) (i := 0) rfl dX7_init_0 ?_
  refine tc_objInit ol_X7_3 oi_m oi_c nle nle dX7_init_1 ?_
  refine tc_aload (v := .null) (i := 0) rfl dX7_init_4 ?_
  refine tc_as (n := n) (S := (shU S h (.inr (7, [])))) (S2 := shU (shU S h (.inr (7, []))) (n) (.inr (0, []))) (fun j hj => shU_n (by omega)) ?_
  refine tc_new (n := n) (S := shU (shU S h (.inr (7, []))) (n) (.inr (0, []))) (k := 0) (w := 0) (ci := 0) (M := 13) ckX0 ck_X7_9 isX0 iiX0 idX0 nle nle shU_e dX7_init_5 ?_
  refine tc_dup dX7_init_8 ?_
  refine tc_callN (n := n + 1) (g := iX0) (h := n) (mg := 11) (sg := 560) (k := 1) (w := 13) (S := shU (shU S h (.inr (7, []))) (n) (.inr (0, []))) (S2 := shU (shU S h (.inr (7, []))) (n) (.inr (0, fflX0 (n + 1)))) (ct_X0 (n := n + 1) (h := n) (S := (shU S h (.inr (7, [])))) (by omega) (Tp.up (hS.sub 1 11 rfl rfl) (by omega))) icX0 rfl iiX0 imX0 rfl ipX0 cm_X7_11 ⟨nle, nle⟩ nle nle nle dX7_init_9 ?_
  rw [shU_id (S := (shU S h (.inr (7, [])))) (h := n) (x := .inr (0, fflX0 (n + 1))) (((shU_n (by omega)).trans (hS.at 0 rfl)))]
  refine tc_putF (n := n + 12) (ci := 7) (h := h) (v := n) (kf := 0) (fs := []) (fs2 := [n + 1, 0, 0, 0]) (S := (shU S h (.inr (7, [])))) (S2 := (shU S h (.inr (7, [n + 1, 0, 0, 0])))) ckX7 (by decide) rfl rfl rfl pf_X7_12 (fun _ => rfl) (fun _ => rfl) (by omega) shU_e shU_e (fun j _ z => by rw [shU_n z, shU_n z]) (fsS_ok rfl) dX7_init_12 ?_
  refine tc_aload (v := .null) (i := 0) rfl dX7_init_15 ?_
  refine tc_iconst (v := 3) dX7_init_16 (by decide) ?_
  refine tc_as (n := n + 12) (S := (shU S h (.inr (7, [n + 1, 0, 0, 0])))) (S2 := (shU (shU S (n + 12) (.inl (3, 3, []))) h (.inr (7, [n + 1, 0, 0, 0])))) (fun j hj => ?_) ?_
  · by_cases z : j = h
    · rw [z, shU_e, shU_e]
    · rw [shU_n z, shU_n z, shU_n (by omega)]
  refine tc_anew (n := n + 12) (S := (shU (shU S (n + 12) (.inl (3, 3, []))) h (.inr (7, [n + 1, 0, 0, 0])))) (k := 12) (w := 573) (t := 3) (M := 3) (C0 := RX5) (fun s q => q.ra3) (by decide) ck_X7_18 (by decide) (by decide) nle nle nle ((shU_n (by omega)).trans shU_e) dX7_init_17 ?_
  refine tc_putF (n := n + 13) (ci := 7) (h := h) (v := n + 12) (kf := 1) (fs := [n + 1, 0, 0, 0]) (fs2 := [n + 1, n + 13, 0, 0]) (S := (shU (shU S (n + 12) (.inl (3, 3, []))) h (.inr (7, [n + 1, 0, 0, 0])))) (S2 := (shU (shU S (n + 12) (.inl (3, 3, []))) h (.inr (7, [n + 1, n + 13, 0, 0])))) ckX7 (by decide) rfl rfl rfl pf_X7_20 (fun _ => rfl) (fun _ => rfl) (by omega) shU_e shU_e (fun j _ z => by rw [shU_n z, shU_n z]) (fsS_ok rfl) dX7_init_20 ?_
  refine tc_aload (v := .null) (i := 0) rfl dX7_init_23 ?_
  refine tc_bipush (v := 40) dX7_init_24 (by decide) ?_
  refine tc_newi (n := n + 13) (S := (shU (shU S (n + 12) (.inl (3, 3, []))) h (.inr (7, [n + 1, n + 13, 0, 0])))) (k := 13) (w := 576) (M := 40) w_ai (by decide) (by decide) nle nle nle (((shU_n (by omega)).trans ((shU_n (by omega)).trans (hS.at 13 rfl)))) dX7_init_26 ?_
  refine tc_putF (n := n + 14) (ci := 7) (h := h) (v := n + 13) (kf := 3) (fs := [n + 1, n + 13, 0, 0]) (fs2 := [n + 1, n + 13, 0, n + 14]) (S := (shU (shU S (n + 12) (.inl (3, 3, []))) h (.inr (7, [n + 1, n + 13, 0, 0])))) (S2 := (shU (shU S (n + 12) (.inl (3, 3, []))) h (.inr (7, [n + 1, n + 13, 0, n + 14])))) ckX7 (by decide) rfl rfl rfl pf_X7_24 (fun _ => rfl) (fun _ => rfl) (by omega) shU_e shU_e (fun j _ z => by rw [shU_n z, shU_n z]) (fsS_ok rfl) dX7_init_28 ?_
  refine tc_iconst (v := 0) dX7_init_31 (by decide) ?_
  refine tc_istore (x := 0) (ls' := [(1, .int 0), (0, .ref (base + h))]) (by decide) rfl dX7_init_32 ?_
  refine tc_iload (x := 0) (q := 0) rfl dX7_init_33 ?_
  refine tc_iconst (v := 3) dX7_init_34 (by decide) ?_
  refine tc_ge0 (tgt := 57) (by decide) dX7_init_35 (by decide) ?_
  refine tc_aload (v := .null) (i := 1) rfl dX7_init_38 ?_
  refine tc_getf (n := n + 14) (ci := 7) (h := h) (r := n + 12) (kf := 1) (fs := [n + 1, n + 13, 0, n + 14]) (S := (shU (shU S (n + 12) (.inl (3, 3, []))) h (.inr (7, [n + 1, n + 13, 0, n + 14])))) ckX7 (by decide) rfl pf_X7_20 (by omega) shU_e rfl dX7_init_39 ?_
  refine tc_iload (x := 0) (q := 0) rfl dX7_init_42 ?_
  refine tc_as (n := n + 14) (S := (shU (shU S (n + 12) (.inl (3, 3, []))) h (.inr (7, [n + 1, n + 13, 0, n + 14])))) (S2 := shU (shU (shU S (n + 12) (.inl (3, 3, []))) h (.inr (7, [n + 1, n + 13, 0, n + 14]))) (n + 14) (.inr (5, []))) (fun j hj => shU_n (by omega)) ?_
  refine tc_new (n := n + 14) (S := shU (shU (shU S (n + 12) (.inl (3, 3, []))) h (.inr (7, [n + 1, n + 13, 0, n + 14]))) (n + 14) (.inr (5, []))) (k := 14) (w := 616) (ci := 5) (M := 5) ckX5 ck_X7_18 isX5 iiX5 idX5 nle nle shU_e dX7_init_43 ?_
  refine tc_dup dX7_init_46 ?_
  refine tc_callN (n := n + 15) (g := iX5) (h := n + 14) (mg := 13) (sg := 582) (k := 15) (w := 621) (S := shU (shU (shU S (n + 12) (.inl (3, 3, []))) h (.inr (7, [n + 1, n + 13, 0, n + 14]))) (n + 14) (.inr (5, []))) (S2 := shU (shU (shU S (n + 12) (.inl (3, 3, []))) h (.inr (7, [n + 1, n + 13, 0, n + 14]))) (n + 14) (.inr (5, fflX5 (n + 15)))) (ct_X5 (n := n + 15) (h := n + 14) (S := (shU (shU S (n + 12) (.inl (3, 3, []))) h (.inr (7, [n + 1, n + 13, 0, n + 14])))) (by omega) (Tp.up (Tp.up (hS.sub 15 13 rfl rfl) (by omega)) (by omega))) icX5 rfl iiX5 imX5 rfl ipX5 cm_X7_28 ⟨nle, nle⟩ nle nle nle dX7_init_47 ?_
  rw [shU_id (S := (shU (shU S (n + 12) (.inl (3, 3, []))) h (.inr (7, [n + 1, n + 13, 0, n + 14])))) (h := n + 14) (x := .inr (5, fflX5 (n + 15))) (((shU_n (by omega)).trans ((shU_n (by omega)).trans (hS.at 14 rfl))))]
  refine tc_aast (n := n + 28) (t := 3) (M := 3) (a := n + 12) (i := 0) (v := n + 14) (ci := 5) (r := (RX5, TX5, 5)) (rs := []) (rs2 := [n + 15, 0, 0]) (vs := fflX5 (n + 15)) (S := (shU (shU S (n + 12) (.inl (3, 3, []))) h (.inr (7, [n + 1, n + 13, 0, n + 14])))) (S2 := (shU (shU S (n + 12) (.inl (3, 3, [n + 15, 0, 0]))) h (.inr (7, [n + 1, n + 13, 0, n + 14])))) (fun s q => q.ra3.1) ckX5.1 (by decide) (by omega) ((shU_n (by omega)).trans shU_e) (by omega) (((shU_n (by omega)).trans ((shU_n (by omega)).trans (hS.at 14 rfl)))) (by decide) (by decide) nle ((shU_n (by omega)).trans shU_e) (fun j _ z => by
    by_cases y : j = h
    · rw [y, shU_e, shU_e]
    · rw [shU_n y, shU_n y, shU_n z, shU_n z]) (fsS_ok rfl) dX7_init_50 ?_
  refine tc_iinc (q := 0) (x := 0) (v := 1) (ls' := [(1, .int 1), (0, .ref (base + h))]) (by decide) rfl (by decide) rfl dX7_init_51 ?_
  refine tc_goto (tgt := 33) dX7_init_54 (by decide) ?_
  refine tc_iload (x := 1) (q := 0) rfl dX7_init_33 ?_
  refine tc_iconst (v := 3) dX7_init_34 (by decide) ?_
  refine tc_ge0 (tgt := 57) (by decide) dX7_init_35 (by decide) ?_
  refine tc_aload (v := .null) (i := 1) rfl dX7_init_38 ?_
  refine tc_getf (n := n + 28) (ci := 7) (h := h) (r := n + 12) (kf := 1) (fs := [n + 1, n + 13, 0, n + 14]) (S := (shU (shU S (n + 12) (.inl (3, 3, [n + 15, 0, 0]))) h (.inr (7, [n + 1, n + 13, 0, n + 14])))) ckX7 (by decide) rfl pf_X7_20 (by omega) shU_e rfl dX7_init_39 ?_
  refine tc_iload (x := 1) (q := 0) rfl dX7_init_42 ?_
  refine tc_as (n := n + 28) (S := (shU (shU S (n + 12) (.inl (3, 3, [n + 15, 0, 0]))) h (.inr (7, [n + 1, n + 13, 0, n + 14])))) (S2 := shU (shU (shU S (n + 12) (.inl (3, 3, [n + 15, 0, 0]))) h (.inr (7, [n + 1, n + 13, 0, n + 14]))) (n + 28) (.inr (5, []))) (fun j hj => shU_n (by omega)) ?_
  refine tc_new (n := n + 28) (S := shU (shU (shU S (n + 12) (.inl (3, 3, [n + 15, 0, 0]))) h (.inr (7, [n + 1, n + 13, 0, n + 14]))) (n + 28) (.inr (5, []))) (k := 28) (w := 1203) (ci := 5) (M := 5) ckX5 ck_X7_18 isX5 iiX5 idX5 nle nle shU_e dX7_init_43 ?_
  refine tc_dup dX7_init_46 ?_
  refine tc_callN (n := n + 29) (g := iX5) (h := n + 28) (mg := 13) (sg := 582) (k := 29) (w := 1208) (S := shU (shU (shU S (n + 12) (.inl (3, 3, [n + 15, 0, 0]))) h (.inr (7, [n + 1, n + 13, 0, n + 14]))) (n + 28) (.inr (5, []))) (S2 := shU (shU (shU S (n + 12) (.inl (3, 3, [n + 15, 0, 0]))) h (.inr (7, [n + 1, n + 13, 0, n + 14]))) (n + 28) (.inr (5, fflX5 (n + 29)))) (ct_X5 (n := n + 29) (h := n + 28) (S := (shU (shU S (n + 12) (.inl (3, 3, [n + 15, 0, 0]))) h (.inr (7, [n + 1, n + 13, 0, n + 14])))) (by omega) (Tp.up (Tp.up (hS.sub 29 13 rfl rfl) (by omega)) (by omega))) icX5 rfl iiX5 imX5 rfl ipX5 cm_X7_28 ⟨nle, nle⟩ nle nle nle dX7_init_47 ?_
  rw [shU_id (S := (shU (shU S (n + 12) (.inl (3, 3, [n + 15, 0, 0]))) h (.inr (7, [n + 1, n + 13, 0, n + 14])))) (h := n + 28) (x := .inr (5, fflX5 (n + 29))) (((shU_n (by omega)).trans ((shU_n (by omega)).trans (hS.at 28 rfl))))]
  refine tc_aast (n := n + 42) (t := 3) (M := 3) (a := n + 12) (i := 1) (v := n + 28) (ci := 5) (r := (RX5, TX5, 5)) (rs := [n + 15, 0, 0]) (rs2 := [n + 15, n + 29, 0]) (vs := fflX5 (n + 29)) (S := (shU (shU S (n + 12) (.inl (3, 3, [n + 15, 0, 0]))) h (.inr (7, [n + 1, n + 13, 0, n + 14])))) (S2 := (shU (shU S (n + 12) (.inl (3, 3, [n + 15, n + 29, 0]))) h (.inr (7, [n + 1, n + 13, 0, n + 14])))) (fun s q => q.ra3.1) ckX5.1 (by decide) (by omega) ((shU_n (by omega)).trans shU_e) (by omega) (((shU_n (by omega)).trans ((shU_n (by omega)).trans (hS.at 28 rfl)))) (by decide) (by decide) nle ((shU_n (by omega)).trans shU_e) (fun j _ z => by
    by_cases y : j = h
    · rw [y, shU_e, shU_e]
    · rw [shU_n y, shU_n y, shU_n z, shU_n z]) (fsS_ok rfl) dX7_init_50 ?_
  refine tc_iinc (q := 0) (x := 1) (v := 2) (ls' := [(1, .int 2), (0, .ref (base + h))]) (by decide) rfl (by decide) rfl dX7_init_51 ?_
  refine tc_goto (tgt := 33) dX7_init_54 (by decide) ?_
  refine tc_iload (x := 2) (q := 0) rfl dX7_init_33 ?_
  refine tc_iconst (v := 3) dX7_init_34 (by decide) ?_
  refine tc_ge0 (tgt := 57) (by decide) dX7_init_35 (by decide) ?_
  refine tc_aload (v := .null) (i := 1) rfl dX7_init_38 ?_
  refine tc_getf (n := n + 42) (ci := 7) (h := h) (r := n + 12) (kf := 1) (fs := [n + 1, n + 13, 0, n + 14]) (S := (shU (shU S (n + 12) (.inl (3, 3, [n + 15, n + 29, 0]))) h (.inr (7, [n + 1, n + 13, 0, n + 14])))) ckX7 (by decide) rfl pf_X7_20 (by omega) shU_e rfl dX7_init_39 ?_
  refine tc_iload (x := 2) (q := 0) rfl dX7_init_42 ?_
  refine tc_as (n := n + 42) (S := (shU (shU S (n + 12) (.inl (3, 3, [n + 15, n + 29, 0]))) h (.inr (7, [n + 1, n + 13, 0, n + 14])))) (S2 := shU (shU (shU S (n + 12) (.inl (3, 3, [n + 15, n + 29, 0]))) h (.inr (7, [n + 1, n + 13, 0, n + 14]))) (n + 42) (.inr (5, []))) (fun j hj => shU_n (by omega)) ?_
  refine tc_new (n := n + 42) (S := shU (shU (shU S (n + 12) (.inl (3, 3, [n + 15, n + 29, 0]))) h (.inr (7, [n + 1, n + 13, 0, n + 14]))) (n + 42) (.inr (5, []))) (k := 42) (w := 1790) (ci := 5) (M := 5) ckX5 ck_X7_18 isX5 iiX5 idX5 nle nle shU_e dX7_init_43 ?_
  refine tc_dup dX7_init_46 ?_
  refine tc_callN (n := n + 43) (g := iX5) (h := n + 42) (mg := 13) (sg := 582) (k := 43) (w := 1795) (S := shU (shU (shU S (n + 12) (.inl (3, 3, [n + 15, n + 29, 0]))) h (.inr (7, [n + 1, n + 13, 0, n + 14]))) (n + 42) (.inr (5, []))) (S2 := shU (shU (shU S (n + 12) (.inl (3, 3, [n + 15, n + 29, 0]))) h (.inr (7, [n + 1, n + 13, 0, n + 14]))) (n + 42) (.inr (5, fflX5 (n + 43)))) (ct_X5 (n := n + 43) (h := n + 42) (S := (shU (shU S (n + 12) (.inl (3, 3, [n + 15, n + 29, 0]))) h (.inr (7, [n + 1, n + 13, 0, n + 14])))) (by omega) (Tp.up (Tp.up (hS.sub 43 13 rfl rfl) (by omega)) (by omega))) icX5 rfl iiX5 imX5 rfl ipX5 cm_X7_28 ⟨nle, nle⟩ nle nle nle dX7_init_47 ?_
  rw [shU_id (S := (shU (shU S (n + 12) (.inl (3, 3, [n + 15, n + 29, 0]))) h (.inr (7, [n + 1, n + 13, 0, n + 14])))) (h := n + 42) (x := .inr (5, fflX5 (n + 43))) (((shU_n (by omega)).trans ((shU_n (by omega)).trans (hS.at 42 rfl))))]
  refine tc_aast (n := n + 56) (t := 3) (M := 3) (a := n + 12) (i := 2) (v := n + 42) (ci := 5) (r := (RX5, TX5, 5)) (rs := [n + 15, n + 29, 0]) (rs2 := [n + 15, n + 29, n + 43]) (vs := fflX5 (n + 43)) (S := (shU (shU S (n + 12) (.inl (3, 3, [n + 15, n + 29, 0]))) h (.inr (7, [n + 1, n + 13, 0, n + 14])))) (S2 := (shU (shU S (n + 12) (.inl (3, 3, [n + 15, n + 29, n + 43]))) h (.inr (7, [n + 1, n + 13, 0, n + 14])))) (fun s q => q.ra3.1) ckX5.1 (by decide) (by omega) ((shU_n (by omega)).trans shU_e) (by omega) (((shU_n (by omega)).trans ((shU_n (by omega)).trans (hS.at 42 rfl)))) (by decide) (by decide) nle ((shU_n (by omega)).trans shU_e) (fun j _ z => by
    by_cases y : j = h
    · rw [y, shU_e, shU_e]
    · rw [shU_n y, shU_n y, shU_n z, shU_n z]) (fsS_ok rfl) dX7_init_50 ?_
  refine tc_iinc (q := 0) (x := 2) (v := 3) (ls' := [(1, .int 3), (0, .ref (base + h))]) (by decide) rfl (by decide) rfl dX7_init_51 ?_
  refine tc_goto (tgt := 33) dX7_init_54 (by decide) ?_
  refine tc_iload (x := 3) (q := 0) rfl dX7_init_33 ?_
  refine tc_iconst (v := 3) dX7_init_34 (by decide) ?_
  refine tc_ge1 (tgt := 57) (by decide) dX7_init_35 (by decide) ?_
  rw [shU_id (S := S) (h := n + 12) (x := .inl (3, 3, [n + 15, n + 29, n + 43])) (hS.at 12 rfl)]
  exact tc_ret (n := n + 56) (k := 56) (w := 2377) (S := (shU S h (.inr (7, [n + 1, n + 13, 0, n + 14])))) rfl rfl rfl (fun j _ => rfl) dX7_init_57
