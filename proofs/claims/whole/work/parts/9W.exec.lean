/-! runs of the class -/
theorem st_le {P : Pg} {f t k : Int} {D : Int → Int} {B : Int} {g : Gs} : (stA P f t k D B g).1 ≤ 4 := by
  unfold stA
  by_cases c : g.2.1 = 400
  · rw [if_pos c]; show (4 : Int) ≤ 4; omega
  · rw [if_neg c]
    by_cases c2 : (evA P k D B).1 ≠ 0
    · rw [if_pos c2]
      have : (evA P k D B).1 = 2 ∨ (evA P k D B).1 = 3 := ev_fail _ _ _ _ c2
      show (evA P k D B).1 ≤ 4
      omega
    · rw [if_neg c2]; show (0 : Int) ≤ 4; omega
theorem wk_le {P : Pg} {f t : Int} : ∀ (m : Nat) (k : Int) (D : Int → Int) (B : Int) (g : Gs), (wkA P f t m k D B g).1 ≤ 4 := by
  intro m
  induction m with
  | zero => intro k D B g; show (4 : Int) ≤ 4; omega
  | succ m ih =>
    intro k D B g
    rw [wkA_s]
    split
    · exact st_le
    · exact ih _ _ _ _
theorem to_le {R rho : Int → Int} {k : Int} {D : Int → Int} {B : Int} {g : Gs} : (toA R rho k D B g).1 ≤ 4 := by
  by_cases h7 : ly R rho 1 k = 7
  · rw [to_call h7]
    show (clA R rho (clR R (tk R k)) D B g).1 ≤ 4
    by_cases w0 : (wkC R rho (clR R (tk R k)) D g).1 = 0
    · rw [clA_ok w0]; show (0 : Int) ≤ 4; omega
    · rw [clA_no w0]; exact wk_le _ _ _ _ _
  · rw [to_st h7]; exact st_le
section K
variable {l : Launch} {M : sl_M} {Q : sl_R} {rho R : Int → Int} {s : Nat}
theorem Cd.fr {N : sl_M} {c : Nat} {P : Pg} (h : Cd M c P) (e : ∀ i j, N c i j = M c i j) : Cd N c P := by unfold Cd; simp only [e]; exact h
theorem kX3_execute (hS : St M s R rho) {a b : Int} (hQ : ∀ N, (∀ o i j, o ≠ 3 → o ≠ 4 → o ≠ 5 → N o i j = M o i j) → N 4 0 1 = (runA R rho a b).2.1 → CG N (runA R rho a b).2.2 → gI (runA R rho a b).2.2 → Q (some (vI (runA R rho a b).1)) N) : sl_Runs l mX3_execute [vR 3 0, vR s 0, vI a, vI b] M Q := by
  have hS' := hS
  obtain ⟨hs7, hGd, hCd, h761, hRt⟩ := hS
  have hw := hCd.1
  have hn := hw.n0
  have sr := cls7 hs7
  have c10 : sl_cls (s + 10) = 0 := by
    have d : ∀ n : Nat, n < 18 → 10 ≤ n → sl_cls (n + 10) = 0 := by decide +kernel
    exact d _ (by omega) (by omega)
  have loop : ∀ (m : Nat) (k x : Int) (N : sl_M) (D : Int → Int) (B : Int) (g : Gs), 401 ≤ g.2.1 + (m : Int) → x + (m : Int) ≤ 401 → 0 ≤ x → (0 ≤ k ∧ k < ly R rho 0 0) → gI g → m8 B → Inv R k B → N 3 0 6 = 0 → CFr N 4 D B → CG N g → (∀ o i j, o ≠ 3 → o ≠ 4 → o ≠ 5 → N o i j = M o i j) → rnA R rho m k D B g = runA R rho a b → sl_At l mX3_execute 70 [(0, vR 3 0), (1, vR s 0), (4, vR (s + 10) 0), (5, vI k), (6, vI x)] [] N Q := by
    intro m
    induction m with
    | zero => intro k x N D B g hm _ _ _ hg; exact absurd hg.2.2 (by omega)
    | succ m ih =>
      intro k x N D B g hm hx x0 hk hg hB hI z6 hF hG fN eR
      obtain ⟨t1, t2, t3, t4⟩ := to_nx (D := D) hGd hk.1 hk.2 hg hB hI
      rw [rnA_s] at eR
      -- behind the turn
      have after : ∀ O, (∀ o i j, o ≠ 3 → o ≠ 4 → o ≠ 5 → O o i j = M o i j) → CRs O 4 (toA R rho k D B g) → sl_At l mX3_execute 70 [(0, vR 3 0), (1, vR s 0), (4, vR (s + 10) 0), (5, vI (toA R rho k D B g).2.1), (6, vI (x + 1))] [] O Q := by
        intro O fO rO'
        obtain ⟨r1, r2, r3⟩ := rO'
        by_cases bad : (toA R rho k D B g).1 ≠ 0
        · rw [if_pos bad] at eR
          rw [← eR] at hQ
          rw [if_neg bad] at r1
          have y := t3 bad
          have hd := hQ O fO r2.1 r3 t1
          refine vX3_execute_70 hs7 c10 fun _ _ _ => ⟨fun q => by omega, fun _ => ⟨fun _ => ⟨fun q => by omega, fun _ => ?_⟩, fun q => (q (by omega)).elim⟩⟩
          rw [r1, show 1 + ((toA R rho k D B g).1 - 1) = (toA R rho k D B g).1 by omega]
          refine ⟨?_, hd⟩
          have : (toA R rho k D B g).1 ≤ 4 := to_le
          omega
        · rw [if_neg bad] at eR
          have ok : (toA R rho k D B g).1 = 0 := Classical.byContradiction bad
          rw [if_pos ok] at r1
          obtain ⟨u1, u2, u3⟩ := t4 ok
          by_cases neg : (toA R rho k D B g).2.1 < 0
          · rw [if_pos neg] at eR
            rw [← eR] at hQ
            have hd := hQ O fO r2.1 r3 t1
            refine vX3_execute_70 hs7 c10 fun _ _ _ => ⟨fun q => by omega, fun _ => ⟨fun _ => ⟨fun _ => ?_, fun q => (q r1).elim⟩, fun q => (q neg).elim⟩⟩
            have e : (if ¬ ((toA R rho k D B g).2.1 ≠ (-8)) then (1 : Int) else 0) = (if (toA R rho k D B g).2.1 = -8 then 1 else 0) := by
              by_cases c : (toA R rho k D B g).2.1 = -8
              · rw [if_pos (fun q => q c), if_pos c]
              · rw [if_neg (fun q => q c), if_neg c]
            rw [e]; exact hd
          · rw [if_neg neg] at eR
            rcases u3 with ⟨e, a1, a2⟩ | ⟨a1, a2⟩
            · unfold e4 at a1; omega
            · exact ih _ (x + 1) O _ _ _ (by omega) (by omega) (by omega) a1 t1 u2 a2 r1 r2 r3 fO eR
      have eC : ∀ i j, N (s + 10) i j = M (s + 10) i j := fun i j => fN _ _ _ (by omega) (by omega) (by omega)
      have hC' : Cd N (s + 10) (ly R rho) := hCd.2.1.fr eC
      refine vX3_execute_70 hs7 c10 fun _ _ _ => ⟨fun q => by omega, fun _ => ⟨fun q => by omega, fun _ => ⟨by omega, ?_⟩⟩⟩
      rw [(hC'.2 k hk.1 hk.2).1]
      refine ⟨fun h7 => ?_, fun h7 => ?_⟩
      · obtain ⟨v1, v2, v3, v4⟩ := ly_ev hGd hk.1 hk.2 h7
        refine kX3_step c10 (Or.inl rfl) hw hC' (hCd.2.2.1.frame eC) hk h7 v1 hg z6 hF hG (fun O fO rO' => ⟨_, rfl, by omega, ?_⟩)
        rw [← to_st h7] at rO' ⊢
        exact after O (fun o i j q1 q2 q3 => by rw [fO o i j q1 q2]; exact fN o i j q1 q2 q3) rO'
      · have h7' : ly R rho 1 k = 7 := Classical.byContradiction h7
        have hSN : St N s R rho := hS'.frame (fun o i j z => fN o i j (by unfold StA at z; omega) (by unfold StA at z; omega) (by unfold StA at z; omega))
        refine kX3_perform hSN hk.1 hk.2 h7' hg hB z6 hF hG (hI.ins hGd hk.1 hk.2 h7') (fun O fO rO' => ⟨_, rfl, by omega, ?_⟩)
        have := after O (fun o i j q1 q2 q3 => by rw [fO o i j q1 q2 q3]; exact fN o i j q1 q2 q3) (by rw [to_call h7']; exact rO')
        rw [to_call h7'] at this
        exact this
  refine eX3_execute (vX3_execute_0 hs7 fun _ _ _ M1 e1 => kX2_give (by decide +kernel) (by omega) ⟨rfl, kX2_give (by decide +kernel) (by omega) ⟨rfl, fun M4 e4' M5 e5 M6 e6 M7 e7 y9 ey => ?_⟩⟩)
  have cf0 : CFr M1 4 (fun _ => 0) 0 := ⟨by rw [e1]; exact sl_wr_s, fun v _ _ hb => by rw [bt_0] at hb; cases hb⟩
  have cf := (cf0.give (v := 0) (x := a) (by omega)).give (v := 1) (x := b) (by omega)
  generalize hM3 : sl_wr (sl_wr (sl_wr (sl_wr M1 4 1 0 a) 4 0 1 (ior (M1 4 0 1) (ishl 1 0))) 4 1 1 b) 4 0 1 (ior ((sl_wr (sl_wr M1 4 1 0 a) 4 0 1 (ior (M1 4 0 1) (ishl 1 0))) 4 0 1) (ishl 1 1)) = M3 at *
  have f3 : ∀ o i j, o ≠ 4 → M3 o i j = M o i j := fun o i j q => by rw [← hM3, e1]; simp only [sl_wr]; rw [if_neg (by omega), if_neg (by omega), if_neg (by omega), if_neg (by omega), if_neg (by omega)]
  have f7 : ∀ o i j, o ≠ 3 → M7 o i j = M3 o i j := fun o i j q => by rw [e7, e6, e5, e4']; simp only [sl_wr]; rw [if_neg (by omega), if_neg (by omega), if_neg (by omega), if_neg (by omega)]
  have z2 : M7 3 0 2 = 0 := by rw [e7, e6, e5, e4']; simp [sl_wr]
  have z3 : M7 3 0 3 = 0 := by rw [e7, e6, e5]; simp [sl_wr]
  have z5 : M7 3 0 5 = 0 := by rw [e7, e6]; simp [sl_wr]
  have z6 : M7 3 0 6 = 0 := by rw [e7]; exact sl_wr_s
  have cf7 : CFr M7 4 (D0 a b) 3 := (show CFr M3 4 (D0 a b) 3 from cf).fr (fun i j => f7 4 i j (by omega))
  have g7 : CG M7 (0, 0, 0, fun _ => 0) := ⟨z2, z3, z5, fun q q0 q1 => absurd q1 (by show ¬ (q < 0); omega)⟩
  have fM : ∀ o i j, o ≠ 3 → o ≠ 4 → o ≠ 5 → M7 o i j = M o i j := fun o i j q1 q2 _ => by rw [f7 o i j q1]; exact f3 o i j q2
  rw [show M7 (s + 10) 0 11 = ly R rho 0 0 by rw [fM _ _ _ (by omega) (by omega) (by omega)]; exact hCd.2.1.1] at ey
  by_cases n0 : ly R rho 0 0 ≤ 0
  · rw [if_pos n0] at ey
    have er : runA R rho a b = (0, 3, (0, 0, 0, fun _ => 0)) := if_pos n0
    rw [er] at hQ
    rw [ey]
    refine vX3_execute_70 hs7 c10 fun _ _ _ => ⟨fun q => by omega, fun _ => ⟨fun _ => ⟨fun _ => ?_, fun q => (q z6).elim⟩, fun q => by omega⟩⟩
    rw [if_neg (by omega)]
    exact hQ M7 fM cf7.1 g7 ⟨by show (0 : Int) ≤ 0; omega, by show (0 : Int) ≤ 0; omega, by show (0 : Int) ≤ 400; omega⟩
  · rw [if_neg n0] at ey
    rw [ey]
    have er : rnA R rho 401 0 (D0 a b) 3 (0, 0, 0, fun _ => 0) = runA R rho a b := by unfold runA; rw [if_neg n0]
    exact loop 401 0 0 M7 (D0 a b) 3 (0, 0, 0, fun _ => 0) (by show (401 : Int) ≤ 0 + 401; omega) (by omega) (by omega) (by omega) ⟨by show (0 : Int) ≤ 0; omega, by show (0 : Int) ≤ 0; omega, by show (0 : Int) ≤ 400; omega⟩ ⟨by omega, by omega⟩ Inv.start z6 cf7 g7 fM er
theorem kX9_runs (hC : Ci M R rho) {a b : Int} (hQ : ∀ N, (∀ o i j, o ≠ 3 → o ≠ 4 → o ≠ 5 → N o i j = M o i j) → N 4 0 1 = (runA R rho a b).2.1 → CG N (runA R rho a b).2.2 → gI (runA R rho a b).2.2 → Q (some (vI (runA R rho a b).1)) N) : sl_Runs l mX9_runs [vR 0 0, vI a, vI b] M Q := eX9_runs (vX9_runs_0 fun _ _ _ => kX9_present hC.1 ⟨_, rfl, cls_psm hC.1, kX3_execute hC.2.1 (fun N f c g i => ⟨_, rfl, hQ N f c g i⟩)⟩)
end K
