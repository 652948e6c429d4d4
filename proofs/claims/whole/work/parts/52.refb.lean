/-! The reference: its ways are the edges -/
def csl (x y sr : Int) : Nat → Int → Int → Int
  | 0, _, a => a
  | n + 1, h, a => csl x y sr n (h + 1) (ior a (if iand (ishr sr (nib x h)) 1 = 1 then ishl 1 (nib y h) else 0))
/-- what call c sets by exit e -/
def csets (R : Int → Int) (c e : Int) : Int := csl (R (774 + R (870 + c))) (R (950 + c)) (ior (lset (R (771 + R (870 + c)))) (R (777 + 4 * R (870 + c) + sp_place e))) (irem (R (774 + R (870 + c))) 16).toNat 0 0
/-- a way of node q = b + k is exit e's -/
def WE (M : sl_M) (q w : Int) (P : Pg) (k e S : Int) : Prop := M 1 28 (4 * q + w) = e ∧ M 1 26 (4 * q + w) = tN P (tg P 0 (P 0 0 - 1) k e) ∧ M 1 27 (4 * q + w) = S ∧ M 1 29 (4 * q + w) = (if e = 2 ∨ e = 4 then la P 0 40 (P 2 k) else -1)
def WYk (M : sl_M) (b : Int) (P : Pg) (k : Int) : Prop :=
  ((P 1 k = 5 ∨ P 1 k = 6) → M 1 25 (b + k) = 2 ∧ ∀ s, (s = 0 ∨ s = 1) → M 1 26 (4 * (b + k) + s) = tN P (en P 0 (P 0 0 - 1) k s) ∧ M 1 27 (4 * (b + k) + s) = 0 ∧ M 1 28 (4 * (b + k) + s) = 1 ∧ M 1 29 (4 * (b + k) + s) = -1) ∧
  (P 1 k ≠ 5 → P 1 k ≠ 6 → (0 ≤ M 1 25 (b + k) ∧ M 1 25 (b + k) ≤ 4) ∧ (∀ e, e4 e → iand (P 20 k) e ≠ 0 → ∃ w, 0 ≤ w ∧ w < M 1 25 (b + k) ∧ WE M (b + k) w P k e (P 21 (16 * k + e))) ∧ (∀ w, 0 ≤ w → w < M 1 25 (b + k) → ∃ e, e4 e ∧ iand (P 20 k) e ≠ 0 ∧ WE M (b + k) w P k e (P 21 (16 * k + e))))
/-- only the ways of node q have changed -/
def FW (M N : sl_M) (q : Int) : Prop := ∀ o i j, ¬ (o = 1 ∧ ((i = 25 ∧ j = q) ∨ (26 ≤ i ∧ i ≤ 29 ∧ 4 * q ≤ j ∧ j < 4 * q + 4))) → N o i j = M o i j
theorem FW.rf {M : sl_M} {q : Int} : FW M M q := fun _ _ _ _ => rfl
theorem FW.tr {M N O : sl_M} {q : Int} (h1 : FW M N q) (h2 : FW N O q) : FW M O q := fun o i j z => (h2 o i j z).trans (h1 o i j z)
theorem FW.ld {M N : sl_M} {q b : Int} {P : Pg} (h : FW M N q) (hL : Ld M b P) : Ld N b P := by
  obtain ⟨h1, h2, h3⟩ := hL
  refine ⟨h1, by rw [h 1 16 _ (by omega)]; exact h2, fun k k0 k1 => ?_⟩
  rw [h 1 17 _ (by omega), h 1 18 _ (by omega), h 1 19 _ (by omega), h 1 20 _ (by omega), h 1 23 _ (by omega)]
  exact h3 k k0 k1
/-- node, call and reads of the rows laid -/
def LdN (M : sl_M) (b : Int) (P : Pg) : Prop := ∀ k, 0 ≤ k → k < P 0 0 → M 1 21 (b + k) = P 30 k ∧ M 1 22 (b + k) = P 31 k ∧ M 1 24 (b + k) = P 10 k
/-- what the row of the state says of each statement's exits -/
def PRf (R : Int → Int) (P : Pg) : Prop := ∀ k, 0 ≤ k → k < P 0 0 → (0 ≤ P 30 k ∧ P 30 k < 40) ∧ (P 1 k = 0 → 0 ≤ R (201 + P 30 k) ∧ R (201 + P 30 k) < 8) ∧ (P 1 k = 7 → (0 ≤ P 31 k ∧ P 31 k < 40) ∧ 0 ≤ R (870 + P 31 k) ∧ R (870 + P 31 k) < 3) ∧
  P 20 k = (if P 1 k = 2 then 8 else if P 1 k = 3 then 2 else if P 1 k = 4 then 4 else if P 1 k = 7 then R (768 + R (870 + P 31 k)) else 1) ∧
  (∀ e, e4 e → P 21 (16 * k + e) = (if P 1 k = 7 then csets R (P 31 k) e else if P 1 k = 0 then ishl 1 (R (201 + P 30 k)) else 0)) ∧
  (∀ e, (e = 2 ∨ e = 4) → P 1 k ≠ 5 → P 1 k ≠ 6 → iand (P 20 k) e ≠ 0 → la P 0 40 (P 2 k) ≠ -1)
section K
variable {l : Launch} {M : sl_M} {Q : sl_R} {P : Pg} {b : Int}
theorem kX10_callSets {c e : Int} (hc : 0 ≤ c ∧ c < 40) (hm : 0 ≤ M 1 1 (870 + c) ∧ M 1 1 (870 + c) < 3) (hQ : Q (some (vI (csets (M 1 1) c e))) M) : sl_Runs l mX10_callSets [vR 1 0, vI c, vI e] M Q := by
  have hp : 0 ≤ sp_place e ∧ sp_place e ≤ 3 := by unfold sp_place; repeat' split; all_goals omega
  have hr := rg_irem (M 1 1 (774 + M 1 1 (870 + c))) 16
  have loop : ∀ (n : Nat) (h a sr : Int), (h = irem (M 1 1 (774 + M 1 1 (870 + c))) 16 - (n : Int) ∨ (n = 0 ∧ irem (M 1 1 (774 + M 1 1 (870 + c))) 16 ≤ h)) → 0 ≤ h → Q (some (vI (csl (M 1 1 (774 + M 1 1 (870 + c))) (M 1 1 (950 + c)) sr n h a))) M → sl_At l mX10_callSets 51 [(0, vR 1 0), (1, vI c), (3, vI (M 1 1 (870 + c))), (4, vI sr), (5, vI a), (6, vI h)] [] M Q := by
    intro n
    induction n with
    | zero =>
      intro h a sr h1 h2 hQ
      exact vX10_callSets_51 fun _ _ _ _ _ _ => ⟨by omega, fun _ => hQ, fun q => by omega⟩
    | succ n ih =>
      intro h a sr h1 h2 hQ
      refine vX10_callSets_51 fun _ _ _ _ _ _ => ⟨by omega, fun q => by omega, fun _ => ?_⟩
      rintro _ rfl
      refine ⟨by omega, ?_⟩
      rintro _ rfl y ey
      refine ⟨by omega, ih (h + 1) y sr (by omega) (by omega) ?_⟩
      have ey' : y = ior a (if iand (ishr sr (nib (M 1 1 (774 + M 1 1 (870 + c))) h)) 1 = 1 then ishl 1 (nib (M 1 1 (950 + c)) h) else 0) := by
        rw [ey]
        unfold nib
        by_cases q : iand (ishr sr (iand (ishr (M 1 1 (774 + M 1 1 (870 + c))) (4 + 4 * h)) 15)) 1 = 1
        · rw [if_pos q, if_neg (fun z => z q)]
        · rw [if_neg q, if_pos q]
      rw [ey']
      exact hQ
  refine eX10_callSets (vX10_callSets_0 fun _ _ _ => ⟨by omega, by omega, kX10_listSet ⟨_, rfl, by omega, fun y ey => ?_⟩⟩)
  rw [ey]
  exact loop (irem (M 1 1 (774 + M 1 1 (870 + c))) 16).toNat 0 0 _ (by omega) (by omega) hQ
/-- a way is added -/
theorem kX10_way (hb : b = 0 ∨ b = 41) {k t S i u : Int} (hk : 0 ≤ k ∧ k < 41) (hw : 0 ≤ M 1 25 (b + k) ∧ M 1 25 (b + k) < 4) (hQ : ∀ N, FW M N (b + k) → N 1 25 (b + k) = M 1 25 (b + k) + 1 → (∀ r, (r = 26 ∨ r = 27 ∨ r = 28 ∨ r = 29) → ∀ j, j ≠ 4 * (b + k) + M 1 25 (b + k) → N 1 r j = M 1 r j) → N 1 26 (4 * (b + k) + M 1 25 (b + k)) = t → N 1 27 (4 * (b + k) + M 1 25 (b + k)) = S → N 1 28 (4 * (b + k) + M 1 25 (b + k)) = i → N 1 29 (4 * (b + k) + M 1 25 (b + k)) = u → Q none N) : sl_Runs l mX10_way [vR 1 0, vI b, vI k, vI t, vI S, vI i, vI u] M Q := by
  refine eX10_way (vX10_way_0 fun _ _ _ _ _ _ _ => ⟨by omega, by omega, fun y ey => ⟨by omega, fun M5 e5 M6 e6 M7 e7 M8 e8 => ?_⟩⟩)
  have h25 : ∀ j, M8 1 25 j = M 1 25 j := fun j => by rw [e8, e7, e6, e5]; simp [sl_wr]
  rw [h25]
  refine ⟨by omega, fun N eN => ?_⟩
  subst ey
  refine hQ N (fun o a j z => ?_) ?_ (fun r hr j hj => ?_) ?_ ?_ ?_ ?_
  · rw [eN, e8, e7, e6, e5]
    simp only [sl_wr]
    rw [if_neg (by omega), if_neg (by omega), if_neg (by omega), if_neg (by omega), if_neg (by omega)]
  · rw [eN, sl_wr_s]
  · rw [eN, e8, e7, e6, e5]
    simp only [sl_wr]
    rw [if_neg (by omega), if_neg (by omega), if_neg (by omega), if_neg (by omega), if_neg (by omega)]
  · rw [eN, e8, e7, e6, e5]; simp [sl_wr]
  · rw [eN, e8, e7, e6, e5]; simp [sl_wr]
  · rw [eN, e8, e7, e6, e5]; simp [sl_wr]
  · rw [eN, e8, e7, e6, e5]; simp [sl_wr]
/-- the way of an exit is added -/
theorem kX10_leaving (hw : WF P) (hL : Ld M b P) {k e S : Int} (hk : 0 ≤ k ∧ k < P 0 0) (he : e4 e) (hl : (e = 2 ∨ e = 4) → la P 0 40 (P 2 k) ≠ -1) (hc : 0 ≤ M 1 25 (b + k) ∧ M 1 25 (b + k) < 4) (hQ : ∀ N, FW M N (b + k) → N 1 25 (b + k) = M 1 25 (b + k) + 1 → (∀ r, (r = 26 ∨ r = 27 ∨ r = 28 ∨ r = 29) → ∀ j, j ≠ 4 * (b + k) + M 1 25 (b + k) → N 1 r j = M 1 r j) → WE N (b + k) (M 1 25 (b + k)) P k e S → Q none N) : sl_Runs l mX10_leaving [vR 1 0, vI b, vI k, vI e, vI S] M Q := by
  have hn := hw.n0
  have hb := hL.1
  have w1 := hw.pr hk.1 hk.2
  have e23 := (hL.2.2 k hk.1 hk.2).2.2.2.2
  have l1 := la_rng hw (f := 0) (by omega) 40 (P 2 k) (by omega)
  refine eX10_leaving (vX10_leaving_0 fun _ _ _ _ _ => ⟨by omega, ?_⟩)
  rw [e23]
  refine ⟨fun q => ?_, fun q => ?_, fun q => ?_, fun q => ?_⟩
  · have := hl (Or.inl q)
    refine kX10_behind hw hL (by omega) ⟨_, rfl, kX10_way hb (by omega) hc (fun N h1 h2 h3 h4 h5 h6 h7 => ⟨rfl, hQ N h1 h2 h3 ⟨by omega, ?_, h5, ?_⟩⟩)⟩
    · rw [h4]; unfold tg; rw [if_neg (by omega), if_neg (by omega), if_pos q]
    · rw [h7, if_pos (Or.inl q)]
  · have := hl (Or.inr q)
    refine kX10_way hb (by omega) hc (fun N h1 h2 h3 h4 h5 h6 h7 => ⟨rfl, hQ N h1 h2 h3 ⟨by omega, ?_, h5, ?_⟩⟩)
    · rw [h4]; unfold tg; rw [if_neg (by omega), if_neg (by omega), if_neg (by omega)]; unfold tN; rw [if_neg (by omega)]
    · rw [h7, if_pos (Or.inr q)]
  · refine kX10_manyOf hL ⟨_, rfl, kX10_way hb (by omega) hc (fun N h1 h2 h3 h4 h5 h6 h7 => ⟨rfl, hQ N h1 h2 h3 ⟨by omega, ?_, h5, ?_⟩⟩)⟩
    · rw [h4]; unfold tg; rw [if_neg (by omega), if_pos (Or.inl q)]; unfold tN; rw [if_pos (by omega)]
    · rw [h7, if_neg (by omega)]
  · have q1 : e = 1 := by unfold e4 at he; omega
    refine kX10_behind hw hL hk ⟨_, rfl, kX10_way hb (by omega) hc (fun N h1 h2 h3 h4 h5 h6 h7 => ⟨rfl, hQ N h1 h2 h3 ⟨by omega, ?_, h5, ?_⟩⟩)⟩
    · rw [h4]; unfold tg; rw [if_pos q1]
    · rw [h7, if_neg (by omega)]
theorem en_loop1 (hw : WF P) {k : Int} (hk : 0 ≤ k ∧ k < P 0 0) (h6 : P 1 k = 6) : fo P k 1 40 (k + 1) = -1 := by
  refine fo_eq hw hk.1 hk.2 (Or.inl ⟨rfl, fun x x1 x2 z => ?_⟩)
  have := hw.af hk.1 hk.2
  have := hw.lp (k := x) (by omega) (by omega) (by omega) (by rw [z.1]; exact h6)
  omega
/-- node k's ways are its edges -/
theorem kX10_laysWays (hw : WF P) (hL : Ld M b P) (hN : LdN M b P) (hR : PRf (M 1 1) P) {k : Int} (hk : 0 ≤ k ∧ k < P 0 0) (hQ : ∀ N, WYk N b P k → FW M N (b + k) → Q none N) : sl_Runs l mX10_laysWays [vR 1 0, vI b, vI k] M Q := by
  have hn := hw.n0
  have hb := hL.1
  obtain ⟨p1, p2, p3, p4, p5, p6⟩ := hR k hk.1 hk.2
  obtain ⟨n1, n2, n3⟩ := hN k hk.1 hk.2
  have hkd := hw.kd hk.1 hk.2
  refine eX10_laysWays (vX10_laysWays_0 fun _ _ _ => ⟨by omega, fun M2 e2 => ?_⟩)
  have f0 : FW M M2 (b + k) := fun o i j z => by rw [e2]; simp only [sl_wr]; rw [if_neg (by omega)]
  have L2 : Ld M2 b P := f0.ld hL
  have c0 : M2 1 25 (b + k) = 0 := by rw [e2]; exact sl_wr_s
  have R2 : M2 1 1 = M 1 1 := by funext j; exact f0 1 1 j (by omega)
  have k17 : M2 1 17 (b + k) = P 1 k := (L2.2.2 k hk.1 hk.2).1
  have k21 : M2 1 21 (b + k) = P 30 k := by rw [f0 1 21 _ (by omega)]; exact n1
  rw [k17, k21, R2]
  -- a statement with one exit
  have one : ∀ e S, e4 e → P 1 k ≠ 5 → P 1 k ≠ 6 → (∀ q, e4 q → (iand (P 20 k) q ≠ 0 ↔ q = e)) → S = P 21 (16 * k + e) → ((e = 2 ∨ e = 4) → la P 0 40 (P 2 k) ≠ -1) → sl_RV l mX10_leaving [vR 1 0, vI b, vI k, vI e, vI S] M2 (fun M4 => Q none M4) := by
    intro e S he n5 n6 hx hS hl
    refine kX10_leaving hw L2 hk he hl (by omega) (fun N h1 h2 h3 h4 => ⟨rfl, hQ N ⟨fun z => by omega, fun _ _ => ⟨by omega, fun q hq hq2 => ?_, fun w w1 w2 => ?_⟩⟩ (f0.tr h1)⟩)
    · have := (hx q hq).mp hq2
      subst this
      rw [c0, hS] at h4
      exact ⟨0, by omega, by omega, h4⟩
    · rw [c0, hS] at h4
      have : w = 0 := by omega
      subst this
      exact ⟨e, he, (hx e he).mpr rfl, h4⟩
  have x1 : ∀ q, e4 q → (iand 1 q ≠ 0 ↔ q = 1) := by rintro q (rfl | rfl | rfl | rfl) <;> decide +kernel
  have x2 : ∀ q, e4 q → (iand 2 q ≠ 0 ↔ q = 2) := by rintro q (rfl | rfl | rfl | rfl) <;> decide +kernel
  have x4 : ∀ q, e4 q → (iand 4 q ≠ 0 ↔ q = 4) := by rintro q (rfl | rfl | rfl | rfl) <;> decide +kernel
  have x8 : ∀ q, e4 q → (iand 8 q ≠ 0 ↔ q = 8) := by rintro q (rfl | rfl | rfl | rfl) <;> decide +kernel
  refine ⟨fun q => ⟨by omega, ?_⟩, fun q => ?_, fun q => ?_, fun q => ?_, fun q => ?_, fun q => ?_, fun q => ?_, fun q => ?_⟩
  · refine one 1 _ (Or.inl rfl) (by omega) (by omega) (by rw [show P 20 k = 1 by rw [p4]; simp [q]]; exact x1) ?_ (by omega)
    rw [p5 1 (Or.inl rfl), if_neg (by omega), if_pos q]
  · refine one 1 _ (Or.inl rfl) (by omega) (by omega) (by rw [show P 20 k = 1 by rw [p4]; simp [q]]; exact x1) ?_ (by omega)
    rw [p5 1 (Or.inl rfl), if_neg (by omega), if_neg (by omega)]
  · refine one 8 _ (Or.inr (Or.inr (Or.inr rfl))) (by omega) (by omega) (by rw [show P 20 k = 8 by rw [p4]; simp [q]]; exact x8) ?_ (by omega)
    rw [p5 8 (Or.inr (Or.inr (Or.inr rfl))), if_neg (by omega), if_neg (by omega)]
  · have e20 : P 20 k = 2 := by rw [p4]; simp [q]
    refine one 2 _ (Or.inr (Or.inl rfl)) (by omega) (by omega) (by rw [e20]; exact x2) ?_ (fun _ => p6 2 (Or.inl rfl) (by omega) (by omega) (by rw [e20]; decide +kernel))
    rw [p5 2 (Or.inr (Or.inl rfl)), if_neg (by omega), if_neg (by omega)]
  · have e20 : P 20 k = 4 := by rw [p4]; simp [q]
    refine one 4 _ (Or.inr (Or.inr (Or.inl rfl))) (by omega) (by omega) (by rw [e20]; exact x4) ?_ (fun _ => p6 4 (Or.inr rfl) (by omega) (by omega) (by rw [e20]; decide +kernel))
    rw [p5 4 (Or.inr (Or.inr (Or.inl rfl))), if_neg (by omega), if_neg (by omega)]
  · -- if
    have loop : ∀ (m : Nat) (s : Int) (N : sl_M), s = 2 - (m : Int) → m ≤ 2 → FW M N (b + k) → N 1 25 (b + k) = s → (∀ z, 0 ≤ z → z < s → N 1 26 (4 * (b + k) + z) = tN P (en P 0 (P 0 0 - 1) k z) ∧ N 1 27 (4 * (b + k) + z) = 0 ∧ N 1 28 (4 * (b + k) + z) = 1 ∧ N 1 29 (4 * (b + k) + z) = -1) → sl_At l mX10_laysWays 137 [(0, vR 1 0), (1, vI b), (2, vI k), (4, vI s)] [] N Q := by
      intro m
      induction m with
      | zero =>
        intro s N h1 h2 hf hc hz
        exact vX10_laysWays_137 fun _ _ _ _ => ⟨fun _ => hQ N ⟨fun _ => ⟨by omega, fun z hz' => hz z (by omega) (by omega)⟩, fun z => by omega⟩ hf, fun q => by omega⟩
      | succ m ih =>
        intro s N h1 h2 hf hc hz
        have Ln := hf.ld hL
        have fin : ∀ t, t = tN P (en P 0 (P 0 0 - 1) k s) → ∀ N', FW N N' (b + k) → N' 1 25 (b + k) = N 1 25 (b + k) + 1 → (∀ r, (r = 26 ∨ r = 27 ∨ r = 28 ∨ r = 29) → ∀ j, j ≠ 4 * (b + k) + N 1 25 (b + k) → N' 1 r j = N 1 r j) → N' 1 26 (4 * (b + k) + N 1 25 (b + k)) = t → N' 1 27 (4 * (b + k) + N 1 25 (b + k)) = 0 → N' 1 28 (4 * (b + k) + N 1 25 (b + k)) = 1 → N' 1 29 (4 * (b + k) + N 1 25 (b + k)) = -1 → sl_At l mX10_laysWays 137 [(0, vR 1 0), (1, vI b), (2, vI k), (4, vI (s + 1))] [] N' Q := by
          intro t ht N' g1 g2 g3 g4 g5 g6 g7
          refine ih (s + 1) N' (by omega) (by omega) (hf.tr g1) (by omega) (fun z z1 z2 => ?_)
          by_cases c : z = s
          · rw [hc] at g4 g5 g6 g7
            subst c
            exact ⟨by rw [g4, ht], g5, g6, g7⟩
          · rw [g3 26 (by omega) _ (by omega), g3 27 (by omega) _ (by omega), g3 28 (by omega) _ (by omega), g3 29 (by omega) _ (by omega)]
            exact hz z z1 (by omega)
        refine vX10_laysWays_137 fun _ _ _ _ => ⟨fun q => by omega, fun _ => kX10_firstOf hw Ln hk ⟨_, rfl, fun q2 => ?_, fun q2 => ?_⟩⟩
        · refine kX10_way hb (by omega) (by omega) (fun N' g1 g2 g3 g4 g5 g6 g7 => ⟨rfl, by omega, fin _ ?_ N' g1 g2 g3 g4 g5 g6 g7⟩)
          unfold en
          rw [if_pos q2]
          unfold tN
          rcases fo_spec (P := P) (k := k) (s := s) 40 (k + 1) (by have := hw.af hk.1 hk.2; omega) with ⟨z, -⟩ | ⟨z, -⟩
          · exact absurd z q2
          · rw [if_neg (by omega)]
        · refine kX10_behind hw Ln hk ⟨_, rfl, kX10_way hb (by omega) (by omega) (fun N' g1 g2 g3 g4 g5 g6 g7 => ⟨rfl, by omega, fin _ ?_ N' g1 g2 g3 g4 g5 g6 g7⟩)⟩
          unfold en
          rw [if_neg q2, if_neg (by omega)]
    exact loop 2 0 M2 (by omega) (by omega) f0 c0 (fun z z1 z2 => by omega)
  · -- loop
    refine kX10_firstOf hw L2 hk ⟨_, rfl, kX10_way hb (by omega) (by omega) (fun N g1 g2 g3 g4 g5 g6 g7 => ⟨rfl, ?_⟩)⟩
    have Ln := g1.ld L2
    rw [c0] at g2 g3 g4 g5 g6 g7
    refine kX10_behind hw Ln hk ⟨_, rfl, kX10_way hb (by omega) (by omega) (fun N' j1 j2 j3 j4 j5 j6 j7 => ⟨rfl, hQ N' ⟨fun _ => ⟨by omega, fun z hz => ?_⟩, fun z1 z2 => by omega⟩ ((f0.tr g1).tr j1)⟩)⟩
    rw [g2] at j3 j4 j5 j6 j7
    rcases hz with rfl | rfl
    · rw [j3 26 (by omega) _ (by omega), j3 27 (by omega) _ (by omega), j3 28 (by omega) _ (by omega), j3 29 (by omega) _ (by omega)]
      refine ⟨?_, g5, g6, g7⟩
      rw [g4]
      unfold en
      by_cases c : fo P k 0 40 (k + 1) ≠ -1
      · rw [if_pos c, if_pos c]
        unfold tN
        rcases fo_spec (P := P) (k := k) (s := 0) 40 (k + 1) (by have := hw.af hk.1 hk.2; omega) with ⟨z, -⟩ | ⟨z, -⟩
        · exact absurd z c
        · rw [if_neg (by omega)]
      · rw [if_neg c, if_neg c, if_pos ⟨q, rfl⟩]
        unfold tN
        rw [if_neg (by omega)]
    · refine ⟨?_, j5, j6, j7⟩
      rw [show (4 * (b + k) + 1 : Int) = 4 * (b + k) + (0 + 1) by omega, j4]
      unfold en
      rw [if_neg (by rw [en_loop1 hw hk q]; omega), if_neg (by omega)]
  · -- call
    have q7 : P 1 k = 7 := by omega
    obtain ⟨d1, d2⟩ := p3 q7
    have e20 : P 20 k = M 1 1 (768 + M 1 1 (870 + P 31 k)) := by rw [p4]; simp [q7]
    have loop : ∀ (m : Nat) (e : Int) (N : sl_M), (e = 1 ∧ m = 4 ∨ e = 2 ∧ m = 3 ∨ e = 4 ∧ m = 2 ∨ e = 8 ∧ m = 1 ∨ e = 16 ∧ m = 0) → FW M N (b + k) → (0 ≤ N 1 25 (b + k) ∧ N 1 25 (b + k) ≤ 4 - (m : Int)) → (∀ q, e4 q → q < e → iand (P 20 k) q ≠ 0 → ∃ w, 0 ≤ w ∧ w < N 1 25 (b + k) ∧ WE N (b + k) w P k q (P 21 (16 * k + q))) → (∀ w, 0 ≤ w → w < N 1 25 (b + k) → ∃ q, e4 q ∧ iand (P 20 k) q ≠ 0 ∧ WE N (b + k) w P k q (P 21 (16 * k + q))) → sl_At l mX10_laysWays 233 [(0, vR 1 0), (1, vI b), (2, vI k), (4, vI e)] [] N Q := by
      intro m
      induction m with
      | zero =>
        intro e N he hf hc h1 h2
        exact vX10_laysWays_233 fun _ _ _ _ => ⟨fun _ => hQ N ⟨fun z => by omega, fun _ _ => ⟨by omega, fun q hq hq2 => h1 q hq (by unfold e4 at hq; omega) hq2, h2⟩⟩ hf, fun q => by omega⟩
      | succ m ih =>
        intro e N he hf hc h1 h2
        have he' : e4 e := by unfold e4; omega
        have Ln := hf.ld hL
        have RN : N 1 1 = M 1 1 := by funext j; exact hf 1 1 j (by omega)
        have k22 : N 1 22 (b + k) = P 31 k := by rw [hf 1 22 _ (by omega)]; exact n2
        refine vX10_laysWays_233 fun _ _ _ _ => ⟨fun q => by omega, fun _ => ⟨by omega, ?_⟩⟩
        rw [k22, RN, ← e20]
        refine ⟨by omega, by omega, fun q => ⟨by omega, fun y ey => ?_⟩, fun q => ?_⟩
        · refine ih y N (by omega) hf (by omega) (fun w hw1 hw2 hw3 => h1 w hw1 ?_ hw3) h2
          by_cases c : w = e
          · subst c; exact absurd q hw3
          · unfold e4 at hw1; omega
        · refine kX10_callSets d1 (by rw [RN]; exact d2) ⟨_, rfl, ?_⟩
          rw [RN]
          have hS : csets (M 1 1) (P 31 k) e = P 21 (16 * k + e) := by rw [p5 e he', if_pos q7]
          rw [hS]
          refine kX10_leaving hw Ln hk he' (fun z => p6 e z (by omega) (by omega) q) (by omega) (fun N' g1 g2 g3 g4 => ⟨rfl, by omega, fun y ey => ?_⟩)
          have keepW : ∀ w z, 0 ≤ w → w < N 1 25 (b + k) → WE N (b + k) w P k z (P 21 (16 * k + z)) → WE N' (b + k) w P k z (P 21 (16 * k + z)) := by
            intro w z w1 w2 h
            unfold WE at h ⊢
            rw [g3 28 (by omega) _ (by omega), g3 26 (by omega) _ (by omega), g3 27 (by omega) _ (by omega), g3 29 (by omega) _ (by omega)]
            exact h
          refine ih y N' (by omega) (hf.tr g1) (by omega) (fun w hw1 hw2 hw3 => ?_) (fun w w1 w2 => ?_)
          · by_cases c : w = e
            · subst c; exact ⟨N 1 25 (b + k), by omega, by omega, g4⟩
            · obtain ⟨z, z1, z2, z3⟩ := h1 w hw1 (by unfold e4 at hw1; omega) hw3
              exact ⟨z, z1, by omega, keepW z w z1 z2 z3⟩
          · by_cases c : w < N 1 25 (b + k)
            · obtain ⟨z, z1, z2, z3⟩ := h2 w w1 c
              exact ⟨z, z1, z2, keepW w z w1 c z3⟩
            · have : w = N 1 25 (b + k) := by omega
              subst this
              exact ⟨e, he', q, g4⟩
    exact loop 4 1 M2 (by omega) f0 (by omega) (fun w hw1 hw2 => by unfold e4 at hw1; omega) (fun w w1 w2 => by omega)
end K
