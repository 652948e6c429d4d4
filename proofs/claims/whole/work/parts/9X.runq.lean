/-! runs of the reference -/
theorem tg_8 {P : Pg} (h : WF P) {k e : Int} (k0 : 0 ≤ k) (k1 : k < P 0 0) (he : e4 e) : tg P 0 (P 0 0 - 1) k e = -8 ↔ e = 8 := by
  have p := h.pr k0 k1
  have b := bh_rng h (f := 0) (t := P 0 0 - 1) (by omega) (by omega) 40 k k0 k1
  have lr := la_rng h (f := 0) (by omega) 40 (P 2 k) (by omega)
  unfold tg
  unfold e4 at he
  by_cases c1 : e = 1
  · rw [if_pos c1]; omega
  · rw [if_neg c1]
    by_cases c2 : e = 8 ∨ la P 0 40 (P 2 k) = -1
    · rw [if_pos c2]; omega
    · rw [if_neg c2]
      have b2 := bh_rng h (f := 0) (t := P 0 0 - 1) (by omega) (by omega) 40 (la P 0 40 (P 2 k)) (by omega) (by omega)
      by_cases c3 : e = 2
      · rw [if_pos c3]; omega
      · rw [if_neg c3]; omega
theorem nx_8 {P : Pg} (h : WF P) {k v : Int} (k0 : 0 ≤ k) (k1 : k < P 0 0) : nxA P 0 (P 0 0 - 1) k v = -8 ↔ (if P 1 k = 5 ∨ P 1 k = 6 then 1 else eK (P 1 k)) = 8 := by
  unfold nxA
  by_cases c : P 1 k = 5 ∨ P 1 k = 6
  · rw [if_pos c, if_pos c]
    have b := bh_rng h (f := 0) (t := P 0 0 - 1) (by omega) (by omega) 40 k k0 k1
    have af := h.af k0 k1
    have n0 := h.n0
    have fs := fo_spec (P := P) (k := k) (s := if v = 0 then 1 else 0) 40 (k + 1) (by omega)
    unfold en
    generalize (if v = 0 then (1 : Int) else 0) = sd at *
    by_cases c1 : fo P k sd 40 (k + 1) ≠ -1
    · rw [if_pos c1]; omega
    · rw [if_neg c1]
      by_cases c2 : P 1 k = 6 ∧ sd = 0
      · rw [if_pos c2]; omega
      · rw [if_neg c2]; omega
  · rw [if_neg c, if_neg c]; exact tg_8 h k0 k1 (eK_4 _)
/-- what a run changes in the reference -/
def FRu (M N : sl_M) : Prop := ∀ (o i : Nat) (j : Int), ¬ (o = 1 ∧ ((16 ≤ i ∧ i ≤ 31) ∨ (51 ≤ i ∧ i ≤ 64) ∨ (i = 0 ∧ ((31 ≤ j ∧ j ≤ 32) ∨ (51 ≤ j ∧ j ≤ 60))))) → N o i j = M o i j
section K
variable {l : Launch} {M : sl_M} {Q : sl_R} {rho R : Int → Int}
theorem kX10_wayBy {P : Pg} {k e : Int} (hk : 0 ≤ k ∧ k < 40) (hW : WYk M 0 P k) (h5 : P 1 k ≠ 5) (h6 : P 1 k ≠ 6) (he : e4 e) (hi : iand (P 20 k) e ≠ 0) (hQ : ∀ w, 0 ≤ w → w < 4 → M 1 28 (4 * k + w) = e → M 1 26 (4 * k + w) = tN P (tg P 0 (P 0 0 - 1) k e) → Q (some (vI w)) M) : sl_Runs l mX10_wayBy [vR 1 0, vI k, vI e] M Q := by
  obtain ⟨a, d, f⟩ := hW.2 h5 h6
  simp only [Int.zero_add] at a d f
  obtain ⟨w, w0, w1, wE⟩ := d e he hi
  have loop : ∀ (n : Nat) (x : Int), 0 ≤ x → x + (n : Int) = w → sl_At l mX10_wayBy 2 [(0, vR 1 0), (1, vI k), (2, vI e), (3, vI x)] [] M Q := by
    intro n
    induction n with
    | zero =>
      intro x x0 hx
      have : x = w := by omega
      subst this
      exact vX10_wayBy_2 fun _ _ _ _ => ⟨by omega, fun _ => hQ x x0 (by omega) wE.1 wE.2.1, fun q => (q wE.1).elim⟩
    | succ n ih =>
      intro x x0 hx
      refine vX10_wayBy_2 fun _ _ _ _ => ⟨by omega, fun q => ?_, fun q => ⟨by omega, ih (x + 1) (by omega) (by omega)⟩⟩
      obtain ⟨e', e1, e2, g1, g2, -⟩ := f x x0 (by omega)
      have : e' = e := by rw [← g1]; exact q
      rw [this] at g2
      exact hQ x x0 (by omega) q g2
  exact eX10_wayBy (vX10_wayBy_0 fun _ _ _ => loop w.toNat 0 (by omega) (by omega))
theorem kX10_runs (hGd : Good (M 1 1) rho) {a b : Int} (hQ : ∀ N, FRu M N → N 1 0 58 = (runA (M 1 1) rho a b).2.1 → RG2 N (runA (M 1 1) rho a b).2.2 → gI (runA (M 1 1) rho a b).2.2 → Q (some (vI (runA (M 1 1) rho a b).1)) N) : sl_Runs l mX10_runs [vR 1 0, vI a, vI b] M Q := by
  generalize hR : M 1 1 = R at *
  have hr := hGd.rda
  have hw := hGd.wf
  have hT := hGd.1.1
  have hn := hw.n0
  have hnT := hT.n0
  have rdc := TG.rdc hGd.1 hGd.2.2.2.1
  have c1 : ∀ q, 0 ≤ q → q ≤ 760 → cutR R q = R q := fun q q0 q1 => cutR_eq q0 q1
  -- it ends
  have done : ∀ (N : sl_M) (k ans : Int), FRu M N → N 1 0 51 = (runA R rho a b).2.1 → RG2 N (runA R rho a b).2.2 → gI (runA R rho a b).2.2 → ans = (runA R rho a b).1 → sl_At l mX10_runs 58 [(0, vR 1 0), (3, vI k), (4, vI ans), (5, vI 0)] [] N Q := by
    intro N k ans fN e51 rG gi ea
    refine vX10_runs_58 fun _ _ _ _ => ⟨fun _ M2 e2 => ?_, fun q => (q rfl).elim⟩
    have f2 : ∀ (o i : Nat) (j : Int), ¬ (o = 1 ∧ i = 0 ∧ j = 58) → M2 o i j = N o i j := fun o i j q => by rw [e2]; simp only [sl_wr]; rw [if_neg q]
    rw [ea]
    exact hQ M2 (fun o i j q => by rw [f2 o i j (by omega)]; exact fN o i j q) (by rw [e2, sl_wr_s]; exact e51) ⟨by rw [f2 1 0 54 (by omega)]; exact rG.1, by rw [f2 1 0 55 (by omega)]; exact rG.2.1, by rw [f2 1 0 56 (by omega)]; exact rG.2.2.1, fun q q0 q1 => by rw [f2 1 58 q (by omega)]; exact rG.2.2.2 q q0 q1⟩ gi
  have loop : ∀ (m : Nat) (k x4 : Int) (N : sl_M) (D : Int → Int) (B : Int) (g : Gs), 401 ≤ g.2.1 + (m : Int) → (0 ≤ k ∧ k < ly R rho 0 0) → gI g → m8 B → Inv R k B → RFr N 51 D B → RG2 N g → FRu M N → LaB N 0 (ly R rho) → LaB N 41 (tp (cutR R)) → rnA R rho m k D B g = runA R rho a b → sl_At l mX10_runs 58 [(0, vR 1 0), (3, vI k), (4, vI x4), (5, vI 1)] [] N Q := by
    intro m
    induction m with
    | zero => intro k x4 N D B g hm _ hg; exact absurd hg.2.2 (by omega)
    | succ m ih =>
      intro k x4 N D B g hm hk hg hB hI hF hG fN L0 L41 eR
      obtain ⟨t1, t2, t3, t4⟩ := to_nx (D := D) hGd hk.1 hk.2 hg hB hI
      rw [rnA_s] at eR
      have eRow : N 1 1 = R := by rw [← hR]; funext q; exact fN 1 1 q (by omega)
      -- behind the turn
      have after : ∀ (O : sl_M) (w : Int), FRu M O → (∀ (i : Nat) (j : Int), 16 ≤ i → i ≤ 31 → O 1 i j = N 1 i j) → RRs O 51 (toA R rho k D B g) → ((toA R rho k D B g).1 ≠ 0 → w = -1) → ((toA R rho k D B g).1 = 0 → (0 ≤ w ∧ w < 4) ∧ O 1 26 (4 * k + w) = tN (ly R rho) (toA R rho k D B g).2.1 ∧ (O 1 28 (4 * k + w) = 8 ↔ (toA R rho k D B g).2.1 = -8)) → sl_At l mX10_runs 131 [(0, vR 1 0), (3, vI k), (6, vI w)] [] O Q := by
        intro O w fO fL rO' wb wk
        have L0' : LaB O 0 (ly R rho) := L0.eq hw (fun i j q => fL i j (by unfold inB at q; omega) (by unfold inB at q; omega))
        have L41' : LaB O 41 (tp (cutR R)) := L41.eq hT (fun i j q => fL i j (by unfold inB at q; omega) (by unfold inB at q; omega))
        obtain ⟨r1, r2, r3⟩ := rO'
        by_cases bad : (toA R rho k D B g).1 ≠ 0
        · rw [if_pos bad] at eR
          have ew := wb bad
          refine vX10_runs_131 fun _ _ _ => ⟨fun q => by omega, fun _ => ?_⟩
          rw [r1]
          exact done O k _ fO (by rw [← eR]; exact r2.1) (by rw [← eR]; exact r3) (by rw [← eR]; exact t1) (by rw [← eR])
        · rw [if_neg bad] at eR
          have ok : (toA R rho k D B g).1 = 0 := Classical.byContradiction bad
          obtain ⟨w0, w26, w28⟩ := wk ok
          obtain ⟨u1, u2, u3⟩ := t4 ok
          refine vX10_runs_131 fun _ _ _ => ⟨fun _ => ⟨by omega, fun y4 ey4 => kX10_manyOf L0'.1 ⟨_, rfl, fun y8 ey8 => ?_⟩⟩, fun q => by omega⟩
          rw [w26] at ey8 ⊢
          by_cases neg : (toA R rho k D B g).2.1 < 0
          · rw [if_pos neg] at eR
            have e8 : y8 = 0 := by
              rw [ey8]; unfold tN; rw [if_pos neg, if_neg (fun q => q (Int.le_refl _))]
            rw [e8]
            refine done O _ _ fO (by rw [← eR]; exact r2.1) (by rw [← eR]; exact r3) (by rw [← eR]; exact t1) ?_
            rw [← eR, ey4]
            show _ = (if (toA R rho k D B g).2.1 = -8 then (1 : Int) else 0)
            by_cases c : (toA R rho k D B g).2.1 = -8
            · rw [if_pos c, if_pos (fun q => q (w28.mpr c))]
            · rw [if_neg c, if_neg (fun q => q (fun z => c (w28.mp z)))]
          · rw [if_neg neg] at eR
            rcases u3 with ⟨e, a1, a2⟩ | ⟨a1, a2⟩
            · unfold e4 at a1; omega
            · have et : tN (ly R rho) (toA R rho k D B g).2.1 = (toA R rho k D B g).2.1 := by unfold tN; rw [if_neg neg]
              rw [et] at ey8 ⊢
              have e8 : y8 = 1 := by rw [ey8, if_pos (by omega)]
              rw [e8]
              exact ih _ _ O _ _ _ (by omega) a1 t1 u2 a2 r2 r3 fO L0' L41' eR
      have b17 : N 1 17 k = ly R rho 1 k := by have := (L0.1.2.2 k hk.1 hk.2).1; rw [Int.zero_add] at this; exact this
      have b22 : N 1 22 k = clR R (tk R k) := by have := (L0.2.1 k hk.1 hk.2).2.1; rw [Int.zero_add] at this; exact this
      have b21 : N 1 21 k = tk R k := by have := (L0.2.1 k hk.1 hk.2).1; rw [Int.zero_add] at this; exact this
      have bW := L0.2.2.1 k hk.1 hk.2
      refine vX10_runs_58 fun _ _ _ _ => ⟨fun q => by omega, fun _ => ⟨by omega, ?_⟩⟩
      rw [b17]
      refine ⟨fun h7 => ?_, fun h7 => ?_⟩
      · obtain ⟨a1, a2, a3, a4, a5, a6, a7⟩ := ly_st hGd hk.1 hk.2 h7
        obtain ⟨v1, v2, v3, v4⟩ := ly_ev hGd hk.1 hk.2 h7
        refine kX10_steps (P := ly R rho) (T := tp (cutR R)) (t := tk R k) (z := 51) (f := 0) (t' := ly R rho 0 0 - 1) (by rw [eRow]; exact rdc.1.2.1) hT (by rw [eRow]; exact rdc.2) (by omega) (Or.inl ⟨rfl, rfl⟩) (by rw [Int.zero_add]; exact b21) (by rw [Int.zero_add]; exact b17) a2 hnT.2 a5.symm (fun i i0 i1 => (a6 i i0 i1).symm) (by rw [eRow, a5]; exact (c1 _ (by omega) (by omega)).symm) (fun q => ⟨by rw [eRow, a4]; exact (c1 _ (by omega) (by omega)).symm, v4 q⟩) v2 v1 v3 h7 (hw.kd hk.1 hk.2) hg hF hG (fun O fO rO' => ⟨_, rfl, ?_⟩)
        rw [← to_st h7] at rO' ⊢
        have fL : ∀ (i : Nat) (j : Int), 16 ≤ i → i ≤ 31 → O 1 i j = N 1 i j := fun i j i0 i1 => fO 1 i j (by omega)
        refine after O _ (fun o i j q => by rw [fO o i j (by omega)]; exact fN o i j q) fL rO' (fun bad => by rw [if_neg bad]) (fun ok => ?_)
        rw [if_pos ok]
        have ok' := ok
        rw [to_st h7] at ok' ⊢
        have sx := st_nx (x := k) (n := ly R rho 0 0) (D := D) (B := B) (g := g) (ly_rg hGd (by omega)) hk.1 hk.2 (by rw [Int.zero_add]; exact a7)
        rw [Int.zero_add, Int.zero_add] at sx
        rw [(sx.2.2 ok').1]
        have wt := wy_top (v := (evA (ly R rho) k D B).2) bW a7
        rw [Int.zero_add] at wt
        have ew : wyA (ly R rho) k D B = wyV (ly R rho) k (evA (ly R rho) k D B).2 := rfl
        rw [ew, fL 26 _ (by omega) (by omega), fL 28 _ (by omega) (by omega), wt.1, wt.2.1]
        refine ⟨?_, rfl, (nx_8 hw hk.1 hk.2).symm⟩
        unfold wyV
        split
        · split <;> omega
        · omega
      · have h7' : ly R rho 1 k = 7 := Classical.byContradiction h7
        obtain ⟨ne, hc, ea, es, -, a20, -⟩ := hGd.cnode hk.1 hk.2 h7'
        rw [b22]
        refine kX10_goesThrough hGd eRow L41 hc hg hF hG (hI.ins hGd hk.1 hk.2 h7') (fun O fO rO' => ⟨_, rfl, ?_⟩)
        have fL : ∀ (i : Nat) (j : Int), 16 ≤ i → i ≤ 31 → O 1 i j = N 1 i j := fun i j i0 i1 => fO 1 i j (by omega)
        have fM : FRu M O := fun o i j q => by rw [fO o i j (by omega)]; exact fN o i j q
        obtain ⟨r1, r2, r3⟩ := rO'
        have o22 : O 1 22 k = clR R (tk R k) := by rw [fL 22 k (by omega) (by omega)]; exact b22
        by_cases w0 : (wkC R rho (clR R (tk R k)) D g).1 = 0
        · obtain ⟨e, e1, e2, e3, e5, e6⟩ := call_path hGd hc w0
          rw [if_pos w0, e2, Int.neg_neg]
          have en0 : e ≠ 0 := by unfold e4 at e1; omega
          refine ⟨fun q => (en0 q).elim, fun _ => ?_⟩
          rw [o22]
          have oF : RFr O 51 D B := ⟨by rw [fO 1 0 _ (by omega)]; exact hF.1, fun v v0 v1 hb => by rw [fO 1 51 v (by omega)]; exact hF.2 v v0 v1 hb⟩
          refine kX10_takesBack hGd (by rw [← eRow]; funext q; exact fO 1 1 q (by omega)) hc oF r2 (fun U fU rU => ⟨rfl, ?_⟩)
          have fLU : ∀ (i : Nat) (j : Int), 16 ≤ i → i ≤ 31 → U 1 i j = N 1 i j := fun i j i0 i1 => by rw [fU 1 i j (by omega)]; exact fL i j i0 i1
          have WU : WYk U 0 (ly R rho) k := bW.eq (by rw [Int.zero_add]; exact fLU 25 k (by omega) (by omega)) (fun i j i0 i1 _ _ => fLU i j (by omega) (by omega))
          refine vX10_runs_101 fun _ _ _ => ⟨fun _ => kX10_wayBy (by omega) WU (by omega) (by omega) e1 (by rw [a20]; exact e5) (fun w w0' w1 w28 w26 => ⟨_, rfl, ?_⟩), fun q => (q en0).elim⟩
          have tc : toA R rho k D B g = (0, tg (ly R rho) 0 (ly R rho 0 0 - 1) k e, (outL (rho (clR R (tk R k))) (wkC R rho (clR R (tk R k)) D g).2.2.1 (wkC R rho (clR R (tk R k)) D g).2.2.2.1 (LOt R (cm R (clR R (tk R k)))) D B).1, (outL (rho (clR R (tk R k))) (wkC R rho (clR R (tk R k)) D g).2.2.1 (wkC R rho (clR R (tk R k)) D g).2.2.2.1 (LOt R (cm R (clR R (tk R k)))) D B).2, (wkC R rho (clR R (tk R k)) D g).2.2.2.2) := by
            rw [to_call h7', clA_ok w0, if_pos w0, e2, Int.neg_neg]
          refine after U w (fun o i j q => by rw [fU o i j (by omega)]; exact fM o i j q) fLU ?_ (fun bad => ?_) (fun _ => ?_)
          · rw [tc]
            refine ⟨by rw [fU 1 0 59 (by omega), r1]; exact w0, rU, ?_⟩
            exact ⟨by rw [fU 1 0 54 (by omega)]; exact r3.1, by rw [fU 1 0 55 (by omega)]; exact r3.2.1, by rw [fU 1 0 56 (by omega)]; exact r3.2.2.1, fun q q0 q1 => by rw [fU 1 58 q (by omega)]; exact r3.2.2.2 q q0 q1⟩
          · rw [tc] at bad; exact (bad rfl).elim
          · rw [tc]
            exact ⟨⟨w0', w1⟩, w26, by rw [w28]; exact (tg_8 hw hk.1 hk.2 e1).symm⟩
        · rw [if_neg w0]
          refine ⟨fun _ => ?_, fun q => (q rfl).elim⟩
          refine vX10_runs_101 fun _ _ _ => ⟨fun q => (q rfl).elim, fun _ => ?_⟩
          have tc : toA R rho k D B g = ((wkC R rho (clR R (tk R k)) D g).1, -1, D, B, (wkC R rho (clR R (tk R k)) D g).2.2.2.2) := by
            rw [to_call h7', clA_no w0, if_neg w0]
          refine after O (-1) fM fL ?_ (fun _ => rfl) (fun ok => ?_)
          · rw [tc]
            exact ⟨r1, ⟨by rw [fO 1 0 _ (by omega)]; exact hF.1, fun v v0 v1 hb => by rw [fO 1 51 v (by omega)]; exact hF.2 v v0 v1 hb⟩, r3⟩
          · rw [tc] at ok; exact (w0 ok).elim
  refine eX10_runs (vX10_runs_0 fun _ _ _ => kX10_lays (P := ly R rho) (P' := tp (cutR R)) (by rw [hR]; exact hr.1) (by rw [hR]; exact hr.2.1) (fun N1 f1 L0 L41 => ⟨rfl, fun M2 e2 => kX10_sets (by omega) ⟨rfl, kX10_sets (by omega) ⟨rfl, fun M5 e5 M6 e6 M7 e7 => ?_⟩⟩⟩))
  rw [if_pos rfl] at e5
  rw [if_pos rfl] at e5
  have cf0 : RFr M2 51 (fun _ => 0) 0 := ⟨by rw [e2]; exact sl_wr_s, fun v _ _ hb => by rw [bt_0] at hb; cases hb⟩
  have cf := (cf0.give (v := 0) (x := a) (Or.inl rfl) (by omega)).give (v := 1) (x := b) (Or.inl rfl) (by omega)
  have f7 : ∀ (o i : Nat) (j : Int), ¬ (o = 1 ∧ (i = 51 ∨ (i = 0 ∧ (j = 51 ∨ j = 54 ∨ j = 55 ∨ j = 56)))) → M7 o i j = N1 o i j := fun o i j q => by rw [e7, e6, e5, e2]; simp only [sl_wr]; rw [if_neg (by omega), if_neg (by omega), if_neg (by omega), if_neg (by omega), if_neg (by omega), if_neg (by omega), if_neg (by omega), if_neg (by omega)]
  have z54 : M7 1 0 54 = 0 := by rw [e7, e6, e5]; simp [sl_wr]
  have z55 : M7 1 0 55 = 0 := by rw [e7, e6]; simp [sl_wr]
  have z56 : M7 1 0 56 = 0 := by rw [e7]; exact sl_wr_s
  have cf7 : RFr M7 51 (D0 a b) 3 := by
    have c3 : RFr _ 51 (D0 a b) 3 := cf
    refine ⟨?_, fun v v0 v1 hb => ?_⟩
    · rw [← c3.1, e7, e6, e5]; simp only [sl_wr]; rw [if_neg (by omega), if_neg (by omega), if_neg (by omega)]; rfl
    · rw [← c3.2 v v0 v1 hb, e7, e6, e5]; simp only [sl_wr]; rw [if_neg (by omega), if_neg (by omega), if_neg (by omega)]; rfl
  have g7 : RG2 M7 (0, 0, 0, fun _ => 0) := ⟨z54, z55, z56, fun q q0 q1 => absurd q1 (by show ¬ (q < 0); omega)⟩
  have fM : FRu M M7 := fun o i j q => by rw [f7 o i j (by omega)]; exact f1 o i j (by omega)
  have L0' : LaB M7 0 (ly R rho) := L0.eq hw (fun i j q => f7 1 i j (by unfold inB at q; omega))
  have L41' : LaB M7 41 (tp (cutR R)) := L41.eq hT (fun i j q => f7 1 i j (by unfold inB at q; omega))
  have g0 : gI (0, 0, 0, fun _ => 0) := ⟨by show (0 : Int) ≤ 0; omega, by show (0 : Int) ≤ 0; omega, by show (0 : Int) ≤ 400; omega⟩
  refine kX10_manyOf L0'.1 ⟨_, rfl, fun y11 ey => ?_⟩
  by_cases n0 : ly R rho 0 0 ≤ 0
  · rw [if_neg (fun q => q n0)] at ey
    have er : runA R rho a b = (0, 3, (0, 0, 0, fun _ => 0)) := if_pos n0
    rw [ey]
    exact done M7 0 0 fM (by rw [er]; exact cf7.1) (by rw [er]; exact g7) (by rw [er]; exact g0) (by rw [er])
  · rw [if_pos n0] at ey
    rw [ey]
    have er : rnA R rho 401 0 (D0 a b) 3 (0, 0, 0, fun _ => 0) = runA R rho a b := by unfold runA; rw [if_neg n0]
    exact loop 401 0 0 M7 (D0 a b) 3 (0, 0, 0, fun _ => 0) (by show (401 : Int) ≤ 0 + 401; omega) (by omega) g0 ⟨by omega, by omega⟩ Inv.start cf7 g7 fM L0' L41' er
end K
