/-! The class builds the state in which a method is settled -/
theorem cls7 {s : Nat} (h : sl_cls s = 7) : 10 ≤ s ∧ s < 18 := by
  refine ⟨Nat.not_lt.mp fun q => ?_, Nat.not_le.mp fun q => ?_⟩
  · have : ∀ s : Nat, s < 10 → sl_cls s ≠ 7 := by decide +kernel
    exact this s q h
  · by_cases c : s < 90
    · have : ∀ s : Nat, s < 90 → 18 ≤ s → sl_cls s ≠ 7 := by decide +kernel
      exact this s c q h
    · unfold sl_cls at h
      rw [if_neg (by omega), if_neg (by omega), if_neg (by omega), if_neg (by omega), if_neg (by omega), if_neg (by omega), if_neg (by omega), if_neg (by omega), if_neg (by omega), if_neg (by omega), if_neg (by omega), if_neg (by omega), if_neg (by omega), if_neg (by omega), if_neg (by omega), if_neg (by omega), if_neg (by omega)] at h
      omega
section S
variable {R R2 rho sg : Int → Int} {m : Int} {M : sl_M} {l : Launch} {Q : sl_R} {P2 : Pg} {c : Nat}
/-- the name of the last statement is set anew -/
theorem CdA.nm {N N' : sl_M} {n v : Int} (h : CdA N c (tr (fun i k => if i = 6 ∧ k = n then v else P2 i k) (n + 1))) (hw : WF P2) (hn : 0 ≤ n ∧ n < P2 0 0) (h7 : P2 1 n = 7) (hN : ∀ i j, ¬ (i = 6 ∧ j = n) → N' c i j = N c i j) (h6 : N' c 6 n = P2 6 n) : CdA N' c (tr P2 (n + 1)) := by
  obtain ⟨a1, a2, a3, a4, a5, a6⟩ := h
  have eq : ∀ m, qs (fun i k => if i = 6 ∧ k = n then v else P2 i k) m = qs P2 m := by
    intro m
    induction m with
    | zero => rfl
    | succ m ih => rw [qs, qs, ih]; rfl
  rw [qs_tr, tr_0, eq] at a4 a5
  refine ⟨tr_wf hw (by omega), ⟨by rw [hN 0 11 (by omega)]; exact a2.1, fun k k0 k1 => ?_⟩, fun k k0 k1 => ?_, by rw [qs_tr, tr_0, hN 0 12 (by omega)]; exact a4, by rw [qs_tr, tr_0]; exact a5, fun k k0 k1 => ?_⟩
  · rw [hN 1 k (by omega), hN 2 k (by omega), hN 3 k (by omega), hN 4 k (by omega)]
    exact a2.2 k k0 k1
  · obtain ⟨b1, b2, b3, b4, b5, b6, b7, b8, b9⟩ := a3 k k0 k1
    rw [hN 9 k (by omega), hN 8 k (by omega), hN 5 k (by omega), hN 10 k (by omega), hN 7 k (by omega)]
    refine ⟨b1, b2, b3, fun i i0 i1 => by rw [hN 11 _ (by omega)]; exact b4 i i0 i1, fun z => ?_, fun z => ?_, b7, b8, b9⟩
    · have z' : P2 1 k = 0 := z
      have ne : k ≠ n := fun e => by rw [e] at z'; omega
      have b5' := b5 z
      rw [tr_r (i := 6) (by decide) (by decide)] at b5' ⊢
      rw [if_neg (fun w => ne w.2)] at b5'
      rw [hN 6 k (fun w => ne w.2)]; exact b5'
    · rw [tr_r (i := 6) (by decide) (by decide)]
      by_cases e : k = n
      · rw [e]; exact h6
      · have b6' := b6 z
        rw [tr_r (i := 6) (by decide) (by decide), if_neg (fun w => e w.2)] at b6'
        rw [hN 6 k (fun w => e w.2)]; exact b6'
  · rw [hN 8 k (by omega), a6 k k0 k1, qs_tr, qs_tr, eq]
theorem kX7_buildSettled {s s' : Nat} (hS : St M s R rho) (hs' : sl_cls s' = 7) (hne : s ≠ s') (hm : 0 ≤ m ∧ m < R 761) (hX : Stl R R2 m sg) (hQ : ∀ N, St N s' R2 (fun c => rho (sg c)) → (∀ o i j, ¬ StA s' o → N o i j = M o i j) → Q none N) : sl_Runs l mX7_buildSettled [vR s' 0, vR s 0, vI m] M Q := by
  obtain ⟨hs, hG, hC, h2, hR⟩ := hS
  have hG2 := hX.good hG hm
  have hc := hX.cut
  have m3 := hG.2.1
  have hT := hG.1
  have sr := cls7 hs
  have sr' := cls7 hs'
  have hSp := hG.spn
  have hL : Lay (tp (cutR R)) (clR R) (eR R) (ly R rho) := ly_lay
  have hSp2 : Spn (tp (cutR R)) (clR R2) (eR R2) := by have := hG2.spn; rw [hc] at this; exact this
  have hL2 : Lay (tp (cutR R)) (clR R2) (eR R2) (ly R2 (fun c => rho (sg c))) := by have := ly_lay (R := R2) (rho := fun c => rho (sg c)); rw [hc] at this; exact this
  have hw2 := hL2.wf hT.1 hSp2
  have hw := hL.wf hT.1 hSp
  have n0 := hw.n0
  have n02 := hw2.n0
  have c10 : sl_cls (s + 10) = 0 := (cls_r hs (m := 0) (by omega)).2.2
  have c10' : sl_cls (s' + 10) = 0 := (cls_r hs' (m := 0) (by omega)).2.2
  have r22 := hG.rdb.2.2.2
  have hEnd := hL.end hT.1 hSp
  have hEnd2 := hL2.end hT.1 hSp2
  have h761 := hX.2.1
  -- the program
  have prog : ∀ (n : Nat) (k a : Int) (N : sl_M), k = ly R rho 0 0 - n → 0 ≤ k → 0 ≤ a → a ≤ ly R2 (fun c => rho (sg c)) 0 0 → tk R2 a = tk R k → (∀ o i j, ¬ StA s' o → N o i j = M o i j) → N s' 0 2 = R2 761 → (∀ q, 0 ≤ q → q < R2 761 → SRt N s' R2 q) → CdA N (s' + 10) (tr (ly R2 (fun c => rho (sg c))) a) → (∀ p, 0 ≤ p → p < k → ¬ (ly R rho 1 p = 7 ∧ ly R rho 6 p = m) → N s' 4 p = ixn (clR R2) (eR R2) (tk R p).toNat) → sl_At l mX7_buildSettled 74 [(0, vR s' 0), (1, vR s 0), (2, vI m), (3, vR (rO s m + 30) 0), (4, vI k)] [] N Q := by
    intro n
    induction n with
    | zero =>
      intro k a N hk k0 a0 a1 ht hF q2 hq hA hp
      have hcb := (cls_r hs (m := m) (by omega)).2.1
      refine vX7_buildSettled_74 hs' hs hcb fun _ _ _ => ?_
      rw [hF (s + 10) 0 11 (by unfold StA; omega), hC.2.1.1]
      refine ⟨fun _ => ?_, fun z => by omega⟩
      have ek : k = ly R rho 0 0 := by omega
      have e1 : tk R k = cutR R 0 := by rw [ek]; exact hEnd.2.2
      have at2 := hL2.at hT.1 hSp2 a0 a1
      have ea : a = ly R2 (fun c => rho (sg c)) 0 0 := by
        have x := at2.2.2.2.1
        have e2 : ly R2 (fun c => rho (sg c)) 30 a = cutR R 0 := by rw [← e1]; exact ht
        rw [e2] at x
        rw [← x, hL2.1]; rfl
      rw [ea] at hA
      exact hQ N ⟨hs', hG2, CdA.full hw2 hA, q2, hq⟩ hF
    | succ n ih =>
      intro k a N hk k0 a0 a1 ht hF q2 hq hA hp
      have hcb := (cls_r hs (m := m) (by omega)).2.1
      have fs : ∀ i j, N (s + 10) i j = M (s + 10) i j := fun i j => hF _ i j (by unfold StA; omega)
      have fC : CdA N (s + 10) (ly R rho) := hC.frame fs
      have SN : St N s R rho := ⟨hs, hG, fC, by rw [hF s 0 2 (by unfold StA; omega)]; exact h2, fun q q0 q1 => by
        obtain ⟨r1, r2, r3, r4, r5⟩ := hR q q0 q1
        have f1 : ∀ i j, N (rO s q + 30) i j = M (rO s q + 30) i j := fun i j => hF _ i j (by unfold StA rO; omega)
        have f0 : ∀ i j, N (rO s q) i j = M (rO s q) i j := fun i j => hF _ i j (by unfold StA rO; omega)
        exact ⟨r1.frame f1, by rw [f0]; exact r2, by rw [f0]; exact r3, by rw [f0]; exact r4, fun e he => by rw [f0]; exact r5 e he⟩⟩
      have k1 : k < ly R rho 0 0 := by omega
      have cl7 := hG.cl7 k0 k1
      have atk := hL.at hT.1 hSp k0 (by omega)
      have t0 : 0 ≤ tk R k := atk.1
      have t1 : tk R k < cutR R 0 := (atk.2.2.2.2 k1).1
      have nk : tk R (k + 1) = nxt (clR R) (eR R) (tk R k) := (atk.2.2.2.2 k1).2
      have ata := hL2.at hT.1 hSp2 a0 a1
      have ean : a < ly R2 (fun c => rho (sg c)) 0 0 := by
        refine Int.not_le.mp fun q => ?_
        have : a = ly R2 (fun c => rho (sg c)) 0 0 := by omega
        have e2 : tk R2 a = cutR R 0 := by rw [this]; exact hEnd2.2.2
        omega
      have na : tk R2 (a + 1) = nxt (clR R2) (eR R2) (tk R2 a) := (ata.2.2.2.2 ean).2
      have ia : ixn (clR R2) (eR R2) (tk R k).toNat = a := by have := ata.2.2.2.1; rw [← ht]; exact this
      obtain ⟨d1, d2, d3, d4⟩ := fC.2.1.2 k k0 k1
      obtain ⟨e1, e2, e3, e4', e5, e6, e7, e8, e9⟩ := fC.2.2.1 k k0 k1
      -- where the parent is
      have par : ly R2 (fun c => rho (sg c)) 2 a = if ly R rho 2 k < 0 then -1 else N s' 4 (ly R rho 2 k) := by
        have p1 : ly R2 (fun c => rho (sg c)) 2 a = ix (clR R2) (eR R2) (tp (cutR R) 2 (tk R k)) := by
          have := (hL2.2.2 a a0 ean).2.2.1
          have e : ly R2 (fun c => rho (sg c)) 30 a = tk R k := ht
          rw [e] at this; exact this
        have p2 : ly R rho 2 k = ix (clR R) (eR R) (tp (cutR R) 2 (tk R k)) := (hL.2.2 k k0 k1).2.2.1
        rw [p1, p2]
        unfold ix
        by_cases hp0 : tp (cutR R) 2 (tk R k) < 0
        · rw [if_pos hp0, if_pos hp0, if_pos (by omega)]
        · rw [if_neg hp0, if_neg hp0]
          have w := hT.1.pr t0 t1
          have up := isN_up hT.1 hSp t0 t1 atk.2.2.1 (by show 0 ≤ tp (cutR R) 2 (tk R k); omega)
          have of := hL.of hT.1 hSp (t := tp (cutR R) 2 (tk R k)) (by omega) (by show _ ≤ cutR R 0; omega) up.1
          have lt := of.2.2.2 (by show _ < cutR R 0; omega)
          have pk : ixn (clR R) (eR R) (tp (cutR R) 2 (tk R k)).toNat < k := by
            have x := hw.pr k0 k1
            have : ly R rho 2 k = ixn (clR R) (eR R) (tp (cutR R) 2 (tk R k)).toNat := by rw [p2]; unfold ix; rw [if_neg hp0]
            omega
          have e30 : tk R (ixn (clR R) (eR R) (tp (cutR R) 2 (tk R k)).toNat) = tp (cutR R) 2 (tk R k) := of.2.2.1
          have q := hp _ of.1 pk (fun z => by
            have := (hG.cl7 of.1 lt).1.mp z.1
            rw [e30] at this
            exact this up.2)
          rw [if_neg (by omega), q, e30]
      refine vX7_buildSettled_74 hs' hs hcb fun _ _ _ => ?_
      rw [fs 0 11, hC.2.1.1]
      refine ⟨fun z => by omega, fun _ => kX7_isCallOf SN ⟨k0, k1⟩ ⟨_, rfl, fun z => ?_, fun z => ?_⟩⟩
      · -- it stays
        rw [b_eq0] at z
        have hmm : clR R (tk R k) ≠ -1 → cm R (clR R (tk R k)) ≠ m := by
          intro q q2
          refine z ⟨cl7.1.mpr q, ?_⟩
          show (if clR R (tk R k) ≠ -1 then R (870 + clR R (tk R k)) else _) = m
          rw [if_pos q]; exact q2
        obtain ⟨r1, r4, r5, r7, r10, r11, r12, r6, rn⟩ := hX.same hG ht hmm
        have nxe : tk R2 (a + 1) = tk R (k + 1) := by rw [na, nk, ht, rn]
        have q160 := hG2.qs160 (m := a + 1) (by omega) (by omega)
        have done : ∀ N', CdA N' (s' + 10) (tr (ly R2 (fun c => rho (sg c))) (a + 1)) → N' s' 4 k = a → (∀ o' i j, o' ≠ s' + 10 → ¬ (o' = s' ∧ i = 4 ∧ j = k) → N' o' i j = N o' i j) → sl_At l mX7_buildSettled 74 [(0, vR s' 0), (1, vR s 0), (2, vI m), (3, vR (rO s m + 30) 0), (4, vI (k + 1))] [] N' Q := by
          intro N' hA' h4 hF'
          refine ih (k + 1) (a + 1) N' (by omega) (by omega) (by omega) (by omega) nxe (fun o i j zz => ?_) (by rw [hF' s' 0 2 (by omega) (by omega)]; exact q2) (fun q q0 q1 => ?_) hA' (fun p p0 p1 hnp => ?_)
          · rw [hF' o i j (fun w => zz (Or.inr (Or.inl w))) (fun w => zz (Or.inl w.1))]; exact hF o i j zz
          · obtain ⟨r1, r2, r3, r4, r5⟩ := hq q q0 q1
            have f1 : ∀ i j, N' (rO s' q + 30) i j = N (rO s' q + 30) i j := fun i j => hF' _ i j (by unfold rO; omega) (by unfold rO; omega)
            have f0 : ∀ i j, N' (rO s' q) i j = N (rO s' q) i j := fun i j => hF' _ i j (by unfold rO; omega) (by unfold rO; omega)
            exact ⟨r1.frame f1, by rw [f0]; exact r2, by rw [f0]; exact r3, by rw [f0]; exact r4, fun e he => by rw [f0]; exact r5 e he⟩
          · by_cases ep : p = k
            · rw [ep, h4, ia]
            · rw [hF' s' 4 p (by omega) (by omega)]
              exact hp p p0 (by omega) hnp
        have m10 : m8 (ly R rho 10 k) := (r22 k k0 k1).2.1
        have h12' : ∀ i, 0 ≤ i → i < ly R rho 11 k → ly R2 (fun c => rho (sg c)) 12 (16 * a + i) = ly R rho 12 (16 * k + i) := fun i i0 i1 => r12 i i0 (by have := e2; omega)
        by_cases z7 : ly R rho 1 k = 7
        · -- a call of another method: its number may change
          have zc := cl7.1.mp z7
          rw [if_pos zc] at r6
          refine kX7_keep (S := ly R rho) (P2 := fun i q => if i = 6 ∧ q = a then ly R rho 6 k else ly R2 (fun c => rho (sg c)) i q) (n := a) hs' c10' c10 (by omega) hw fC.2.1 fC.2.2.1 ⟨k0, k1⟩ ?_ ?_ ⟨a0, ?_⟩ ?_ ?_ ?_ ?_ (fun N' hA' h4 hF' => ⟨_, rfl, fun w => by omega, fun _ => ⟨?_, ?_⟩⟩)
          · -- the prefix is the same
            obtain ⟨x1, x2, x3, x4, x5, x6⟩ := hA
            have eq : ∀ m, qs (fun i q => if i = 6 ∧ q = a then ly R rho 6 k else ly R2 (fun c => rho (sg c)) i q) m = qs (ly R2 (fun c => rho (sg c))) m := by
              intro m
              induction m with
              | zero => rfl
              | succ m ih => rw [qs, qs, ih]; rfl
            rw [qs_tr] at x4 x5
            refine ⟨x1, x2, fun q q0 q1 => ?_, by rw [qs_tr, eq]; exact x4, by rw [qs_tr, eq]; exact x5, fun q q0 q1 => by rw [qs_tr, eq, x6 q q0 q1, qs_tr]⟩
            have ne : q ≠ a := by have : q < a := q1; omega
            have x := x3 q q0 q1
            have e66 : tr (fun i q => if i = 6 ∧ q = a then ly R rho 6 k else ly R2 (fun c => rho (sg c)) i q) a 6 q = tr (ly R2 (fun c => rho (sg c))) a 6 q := by
              rw [tr_r (i := 6) (by decide) (by decide), tr_r (i := 6) (by decide) (by decide), if_neg (fun w => ne w.2)]
            rw [e66]; exact x
          · exact hw2
          · exact ean
          · refine cpy_same fC.2.2.1 ⟨k0, k1⟩ m10 r1 r5 ?_ r7 r10 r11 h12'
            show (if (6 : Nat) = 6 ∧ a = a then ly R rho 6 k else _) = _
            rw [if_pos ⟨rfl, rfl⟩]
          · have eq : ∀ m, qs (fun i q => if i = 6 ∧ q = a then ly R rho 6 k else ly R2 (fun c => rho (sg c)) i q) m = qs (ly R2 (fun c => rho (sg c))) m := by
              intro m
              induction m with
              | zero => rfl
              | succ m ih => rw [qs, qs, ih]; rfl
            rw [eq]; exact q160
          · exact par
          · exact r4
          · omega
          · have v1 : N' (s' + 10) 1 a = 7 := by
              have := (hA'.2.1.2 a a0 (by show a < a + 1; omega)).1
              rw [this]
              show ly R2 (fun c => rho (sg c)) 1 a = 7
              rw [r1]; exact z7
            have v6 : N' (s' + 10) 6 a = ly R rho 6 k := by
              have := (hA'.2.2.1 a a0 (by show a < a + 1; omega)).2.2.2.2.2.1 (by show ly R2 (fun c => rho (sg c)) 1 a = 7; rw [r1]; exact z7)
              rw [this, tr_r (i := 6) (by decide) (by decide), if_pos ⟨rfl, rfl⟩]
            rw [v1, v6]
            have r1' : ly R2 (fun c => rho (sg c)) 1 a = 7 := by rw [r1]; exact z7
            have g6 : ly R rho 6 k = cm R (clR R (tk R k)) := by
              show (if clR R (tk R k) ≠ -1 then R (870 + clR R (tk R k)) else _) = _
              rw [if_pos zc]
            have cs := clR_spec zc
            have gm := (hG.2.2.2.2.1 _ cs.1 cs.2.1).2.1
            refine ⟨fun w => by omega, fun _ => ⟨fun w => ⟨by omega, done N' ?_ h4 hF'⟩, fun w => ⟨by omega, fun M15 e15 => ⟨by omega, done M15 ?_ ?_ ?_⟩⟩⟩⟩
            · rw [if_pos w] at r6
              exact CdA.nm hA' hw2 ⟨a0, ean⟩ r1' (fun _ _ _ => rfl) (by rw [v6, r6])
            · rw [if_neg w] at r6
              refine CdA.nm hA' hw2 ⟨a0, ean⟩ r1' (fun i j zz => by rw [e15]; simp only [sl_wr]; rw [if_neg (by omega)]) (by rw [e15, sl_wr_s, r6])
            · rw [e15]; simp only [sl_wr]; rw [if_neg (by omega)]; exact h4
            · intro o' i j u1 u2
              rw [e15]; simp only [sl_wr]; rw [if_neg (by omega)]; exact hF' o' i j u1 u2
        · have nc : ¬ clR R (tk R k) ≠ -1 := fun w => z7 (cl7.1.mpr w)
          rw [if_neg nc] at r6
          refine kX7_keep (S := ly R rho) (P2 := ly R2 (fun c => rho (sg c))) (n := a) hs' c10' c10 (by omega) hw fC.2.1 fC.2.2.1 ⟨k0, k1⟩ hA hw2 ⟨a0, ean⟩ (cpy_same fC.2.2.1 ⟨k0, k1⟩ m10 r1 r5 r6 r7 r10 r11 h12') q160 par r4 (fun N' hA' h4 hF' => ⟨_, rfl, fun w => by omega, fun _ => ⟨by omega, fun w => ⟨by omega, done N' hA' h4 hF'⟩, fun w => ?_⟩⟩)
          have := (hA'.2.1.2 a a0 (by show a < a + 1; omega)).1
          have v1 : N' (s' + 10) 1 a = ly R2 (fun c => rho (sg c)) 1 a := this
          rw [v1, r1] at w
          exact (w z7).elim
      · -- its statements come back
        have z := b_ne0.mp z
        have zc := cl7.1.mp z.1
        obtain ⟨cc0, cc1, cc2⟩ := clR_spec zc
        have em : cm R (clR R (tk R k)) = m := by
          have : ly R rho 6 k = R (870 + clR R (tk R k)) := by
            show (if clR R (tk R k) ≠ -1 then R (870 + clR R (tk R k)) else _) = _
            rw [if_pos zc]
          rw [← z.2, this]
        obtain ⟨g1, g2, g3, g4, g5, g6, g7, g8, g9, g10, g11⟩ := hG.2.2.2.2.1 _ cc0 cc1
        have ea : ca R (clR R (tk R k)) = tk R k := cc2
        rw [em] at g3 g4
        rw [ea] at g1 g3 g4
        have eE : tp (cutR R) 3 (cz R (clR R (tk R k))) = eR R (tk R k) := rfl
        rw [eE] at g3 g4
        have sp := hSp (tk R k) t0 t1 zc
        have nke : tk R (k + 1) = eR R (tk R k) := by rw [nk]; unfold nxt; rw [if_pos zc]
        have mg := hG.2.2.1 m hm.1 hm.2
        have en := mg.ends hT
        -- nothing is called there any more
        have no2 : ∀ u, tk R k ≤ u → u < eR R (tk R k) → clR R2 u = -1 := by
          intro u u0 u1
          refine Classical.byContradiction fun q => ?_
          obtain ⟨b1, b2, b3, b4, b5⟩ := (hX.cl hG (t := u)).1 q
          by_cases eu : u = tk R k
          · rw [eu] at b3; exact b3 em
          · exact b2 (sp.2.2 u (by omega) u1)
        have walk : ∀ x : Nat, (x : Int) ≤ eR R (tk R k) - tk R k → a + x ≤ ly R2 (fun c => rho (sg c)) 0 0 ∧ tk R2 (a + x) = tk R k + x := by
          intro x
          induction x with
          | zero => intro _; rw [show a + ((0 : Nat) : Int) = a by omega]; exact ⟨a1, by rw [ht]; omega⟩
          | succ x ihx =>
            intro hx
            obtain ⟨i1, i2⟩ := ihx (by omega)
            have lt : a + (x : Int) < ly R2 (fun c => rho (sg c)) 0 0 := by
              refine Int.not_le.mp fun q => ?_
              have : a + (x : Int) = ly R2 (fun c => rho (sg c)) 0 0 := by omega
              have e2 : tk R2 (a + x) = cutR R 0 := by rw [this]; exact hEnd2.2.2
              have := sp.1.2
              have e00 : tp (cutR R) 0 0 = cutR R 0 := rfl
              omega
            have at2 := hL2.at hT.1 hSp2 (k := a + x) (by omega) (by omega)
            have nx : tk R2 (a + x + 1) = nxt (clR R2) (eR R2) (tk R2 (a + x)) := (at2.2.2.2.2 lt).2
            rw [show a + ((x + 1 : Nat) : Int) = a + x + 1 by omega]
            refine ⟨by omega, ?_⟩
            rw [nx, i2]
            unfold nxt
            rw [if_neg (by rw [no2 (tk R k + x) (by omega) (by omega)]; omega)]
            omega
        have wk : ∀ x, 0 ≤ x → x ≤ eR R (tk R k) - tk R k → a + x ≤ ly R2 (fun c => rho (sg c)) 0 0 ∧ tk R2 (a + x) = tk R k + x := by
          intro x x0 x1
          have := walk x.toNat (by omega)
          rwa [show ((x.toNat : Nat) : Int) = x by omega] at this
        have ixw : ∀ x, 0 ≤ x → x ≤ eR R (tk R k) - tk R k → ixn (clR R2) (eR R2) (tk R k + x).toNat = a + x := by
          intro x x0 x1
          obtain ⟨y1, y2⟩ := wk x x0 x1
          have := (hL2.at hT.1 hSp2 (k := a + x) (by omega) y1).2.2.2.1
          have e : ly R2 (fun c => rho (sg c)) 30 (a + x) = tk R k + x := y2
          rw [e] at this; exact this
        have body := (SN.2.2.2.2 m hm.1 hm.2).1
        have nB : bod R m 0 0 = eR R (tk R k) - tk R k := by show tp (cutR R) 3 (ml0 R m) - mf0 R m = _; omega
        have rngk := hw.pr k0 k1
        rw [fs 2 k, (hC.2.1.2 k k0 k1).2.1]
        refine ⟨by omega, kX7_placeOf hs' (by omega) ⟨_, rfl, ?_⟩⟩
        have v11 : N (rO s m + 30) 0 11 = eR R (tk R k) - tk R k := by rw [body.2.1.1]; exact nB
        have v4 : N (s + 10) 4 k = ly R rho 4 k := d4
        have v7 : N (s + 10) 7 k = rho (clR R (tk R k)) := by
          rw [e9]
          show (if clR R (tk R k) ≠ -1 then rho (clR R (tk R k)) else _) = _
          rw [if_pos zc]
        show sl_rg (N (rO s m + 30) 0 11 - 1) ∧ sl_RV l mX0_addRange [vR (s' + 10) 0, vR (rO s m + 30) 0, vI 0, vI (N (rO s m + 30) 0 11 - 1), vI (if ly R rho 2 k < 0 then (-1) else N s' 4 (ly R rho 2 k)), vI (N (s + 10) 4 k), vI (N (s + 10) 7 k)] N _
        rw [v11, v4, v7, ← par]
        have e00 : tp (cutR R) 0 0 = cutR R 0 := rfl
        have n40 : cutR R 0 ≤ 40 := hT.1.n0.2
        have spe := sp.1
        rw [e00] at spe
        refine ⟨by omega, ?_⟩
        refine kX0_addRange (S := bod R m) (P2 := ly R2 (fun c => rho (sg c))) (a := a) c10' hcb (by unfold rO; omega) body.1 body.2.1 body.2.2.1 ⟨by omega, by omega, by rw [nB]; omega⟩ hA hw2 ⟨a0, by have := (wk (eR R (tk R k) - tk R k) (by omega) (by omega)).1; omega⟩ (fun x x0 x1 => ?_) (fun q q0 q1 => hG2.qs160 q0 (by have := (wk (eR R (tk R k) - tk R k) (by omega) (by omega)).1; omega)) (fun N' hA' hF' => ⟨rfl, by omega, ?_⟩)
        · -- a statement of the method
          obtain ⟨y1, y2⟩ := wk x x0 (by omega)
          rw [show a + (x - 0) = a + x by omega]
          have lt : a + x < ly R2 (fun c => rho (sg c)) 0 0 := by
            have := (wk (x + 1) (by omega) (by omega)).1; omega
          have tw := g4 x x0 (by omega)
          have c2 : ¬ clR R2 (tk R2 (a + x)) ≠ -1 := by rw [y2, no2 _ (by omega) (by omega)]; omega
          have tx := hT.2.2.2 (tk R k + x) (by omega) (by omega)
          have fx := hT.2.2.2 (mf0 R m + x) (by omega) (by omega)
          have us := uses_ren tw fx.2.2.1
          obtain ⟨w1, w2, w3, w4, w5, w6, w7⟩ := tw
          have q1 : ly R2 (fun c => rho (sg c)) 1 (a + x) = tp (cutR R) 1 (tk R k + x) := by
            show (if clR R2 (tk R2 (a + x)) ≠ -1 then 7 else cutR R2 (1 + tk R2 (a + x))) = _
            rw [if_neg c2, hc, y2]; rfl
          have q5 : ly R2 (fun c => rho (sg c)) 5 (a + x) = tp (cutR R) 5 (tk R k + x) := by
            show (if clR R2 (tk R2 (a + x)) ≠ -1 then 0 else cutR R2 (161 + tk R2 (a + x))) = _
            rw [if_neg c2, hc, y2]; rfl
          have q6 : ly R2 (fun c => rho (sg c)) 6 (a + x) = tp (cutR R) 6 (tk R k + x) := by
            show (if clR R2 (tk R2 (a + x)) ≠ -1 then R2 (870 + clR R2 (tk R2 (a + x))) else cutR R2 (201 + tk R2 (a + x))) = _
            rw [if_neg c2, hc, y2]; rfl
          have q7 : ly R2 (fun c => rho (sg c)) 7 (a + x) = 16434824 := by
            show (if clR R2 (tk R2 (a + x)) ≠ -1 then rho (sg (clR R2 (tk R2 (a + x)))) else 16434824) = _
            rw [if_neg c2]
          have q10 : ly R2 (fun c => rho (sg c)) 10 (a + x) = uses (cutR R) (tk R k + x) := by
            show (if clR R2 (tk R2 (a + x)) ≠ -1 then lset (R2 (910 + clR R2 (tk R2 (a + x)))) else uses (cutR R2) (tk R2 (a + x))) = _
            rw [if_neg c2, hc, y2]
          have q11 : ly R2 (fun c => rho (sg c)) 11 (a + x) = tp (cutR R) 11 (tk R k + x) := by
            show (if clR R2 (tk R2 (a + x)) ≠ -1 then irem (R2 (910 + clR R2 (tk R2 (a + x)))) 16 + 1 + irem (R2 (950 + clR R2 (tk R2 (a + x)))) 16 else cutR R2 (241 + tk R2 (a + x))) = _
            rw [if_neg c2, hc, y2]; rfl
          have l12 : tp (cutR R) 11 (mf0 R m + x) ≤ 12 := fx.2.2.1.2
          have q12 : ∀ i, 0 ≤ i → i < 16 → ly R2 (fun c => rho (sg c)) 12 (16 * (a + x) + i) = tp (cutR R) 12 (16 * (tk R k + x) + i) := by
            intro i i0 i1
            show (if clR R2 (tk R2 ((16 * (a + x) + i) / 16)) ≠ -1 then _ else cutR R2 ((281 + (12 * tk R2 ((16 * (a + x) + i) / 16))) + (16 * (a + x) + i) % 16)) = _
            rw [show (16 * (a + x) + i) / 16 = a + x by omega, show (16 * (a + x) + i) % 16 = i by omega, if_neg c2, hc, y2, tp_12 ⟨i0, i1⟩]
          have n7 : tp (cutR R) 1 (mf0 R m + x) ≠ 7 := fx.1
          refine ⟨⟨?_, ?_, fun z0 => ?_, fun z0 => (n7 z0).elim, ?_, ?_, ?_, fun i i0 i1 => ?_⟩, ?_, ?_⟩
          · rw [q1, w1]; rfl
          · rw [q5, w4]; rfl
          · rw [q6, w6 z0]; rfl
          · rw [q7]; rfl
          · rw [q10, us]; rfl
          · rw [q11, w5]; rfl
          · have i1' : i < tp (cutR R) 11 (mf0 R m + x) := i1
            have b12 : bod R m 12 (16 * x + i) = tp (cutR R) 12 (16 * (mf0 R m + x) + i) := sft_12
            rw [q12 i i0 (by omega), w7 i i0 i1', b12]
          · -- its parent
            have p1 : ly R2 (fun c => rho (sg c)) 2 (a + x) = ix (clR R2) (eR R2) (tp (cutR R) 2 (tk R k + x)) := by
              have := (hL2.2.2 (a + x) (by omega) lt).2.2.1
              have e : ly R2 (fun c => rho (sg c)) 30 (a + x) = tk R k + x := y2
              rw [e] at this; exact this
            have p0 : ly R2 (fun c => rho (sg c)) 2 a = ix (clR R2) (eR R2) (tp (cutR R) 2 (tk R k)) := by
              have := (hL2.2.2 a a0 ean).2.2.1
              have e : ly R2 (fun c => rho (sg c)) 30 a = tk R k := ht
              rw [e] at this; exact this
            have b2 : bod R m 2 x = if tp (cutR R) 2 (mf0 R m + x) < mf0 R m then -1 else tp (cutR R) 2 (mf0 R m + x) - mf0 R m := rfl
            rcases w3 with ⟨v1, v2⟩ | ⟨v1, v2, v3⟩
            · rw [b2, if_pos v1, if_pos (by omega), p1, p0]
              have := (sp.2.1 (tk R k + x) (by omega) (by omega)).2
              rw [show tp (cutR R) 2 (tk R k + x) = tp (cutR R) 2 (tk R k) by omega]
            · rw [b2, if_neg (by omega), if_neg (by omega), p1]
              unfold ix
              have fr := hT.1.pr (k := mf0 R m + x) (by omega) (by show _ < cutR R 0; omega)
              rw [if_neg (by omega), show tp (cutR R) 2 (tk R k + x) = tk R k + (tp (cutR R) 2 (mf0 R m + x) - mf0 R m) by omega, ixw _ (by omega) (by omega)]
              omega
          · -- its side
            have p1 : ly R2 (fun c => rho (sg c)) 4 (a + x) = tp (cutR R) 4 (tk R k + x) := by
              have := (hL2.2.2 (a + x) (by omega) lt).2.2.2.2
              have e : ly R2 (fun c => rho (sg c)) 30 (a + x) = tk R k + x := y2
              rw [e] at this; exact this
            have p0 : ly R rho 4 k = tp (cutR R) 4 (tk R k) := rfl
            have b2 : bod R m 2 x = if tp (cutR R) 2 (mf0 R m + x) < mf0 R m then -1 else tp (cutR R) 2 (mf0 R m + x) - mf0 R m := rfl
            have b4 : bod R m 4 x = if tp (cutR R) 2 (mf0 R m + x) < mf0 R m then 0 else tp (cutR R) 4 (mf0 R m + x) := rfl
            rcases w3 with ⟨v1, v2⟩ | ⟨v1, v2, v3⟩
            · rw [b2, if_pos v1, if_pos (by omega), p1, p0]
              have pa := (sp.2.1 (tk R k + x) (by omega) (by omega)).2
              have pe : tp (cutR R) 2 (tk R k + x) = tp (cutR R) 2 (tk R k) := by omega
              -- the sides of a span are all the same
              by_cases ex : x = 0
              · rw [ex, Int.add_zero]
              · have m1 := hT.2.1 (tk R k) (tk R k + x) t0 (by omega) (by show _ < cutR R 0; omega) pe.symm
                have zt : cz R (clR R (tk R k)) < eR R (tk R k) := by
                  have := (hT.1.af (k := cz R (clR R (tk R k))) (by have := g1.1; have := g1.2.1; omega) g1.2.2.1).1
                  rw [← eE]; exact this
                have le : tk R k + x ≤ cz R (clR R (tk R k)) := by
                  refine Int.not_lt.mp fun q => ?_
                  have i1 := hT.1.in1 (j := cz R (clR R (tk R k))) (k := tk R k + x) (by have := g1.1; have := g1.2.1; omega) q (by rw [eE]; omega) (by show _ < cutR R 0; omega)
                  have := g1.2.1
                  omega
                have m2 : tp (cutR R) 4 (tk R k + x) ≤ tp (cutR R) 4 (cz R (clR R (tk R k))) := by
                  by_cases eq : tk R k + x = cz R (clR R (tk R k))
                  · rw [eq]; exact Int.le_refl _
                  · exact hT.2.1 (tk R k + x) (cz R (clR R (tk R k))) (by omega) (by omega) g1.2.2.1 (by rw [pe]; exact g1.2.2.2.1)
                have m3 : tp (cutR R) 4 (tk R k) = tp (cutR R) 4 (cz R (clR R (tk R k))) := g1.2.2.2.2
                omega
            · rw [b2, if_neg (by omega), p1, v3, b4, if_neg (by omega)]
        · have ee : a + (eR R (tk R k) - tk R k - 1 + 1 - 0) = a + (eR R (tk R k) - tk R k) := by omega
          rw [ee] at hA'
          obtain ⟨y1, y2⟩ := wk (eR R (tk R k) - tk R k) (by omega) (by omega)
          refine ih (k + 1) (a + (eR R (tk R k) - tk R k)) N' (by omega) (by omega) (by omega) y1 (by rw [y2, nke]; omega) (fun o i j zz => ?_) (by rw [hF' s' 0 2 (by omega)]; exact q2) (fun q q0 q1 => ?_) hA' (fun p p0 p1 hnp => ?_)
          · rw [hF' o i j (fun w => zz (Or.inr (Or.inl w)))]; exact hF o i j zz
          · obtain ⟨r1, r2, r3, r4, r5⟩ := hq q q0 q1
            have f1 : ∀ i j, N' (rO s' q + 30) i j = N (rO s' q + 30) i j := fun i j => hF' _ i j (by unfold rO; omega)
            have f0 : ∀ i j, N' (rO s' q) i j = N (rO s' q) i j := fun i j => hF' _ i j (by unfold rO; omega)
            exact ⟨r1.frame f1, by rw [f0]; exact r2, by rw [f0]; exact r3, by rw [f0]; exact r4, fun e he => by rw [f0]; exact r5 e he⟩
          · have np : p ≠ k := fun e => by rw [e] at hnp; exact hnp z
            rw [hF' s' 4 p (by omega)]
            exact hp p p0 (by omega) hnp
  -- the methods
  have meth : ∀ (n : Nat) (x : Int) (N : sl_M), x = R 761 - n → 0 ≤ x → (∀ o i j, ¬ StA s' o → N o i j = M o i j) → N s' 0 2 = (if x ≤ m then x else x - 1) → (∀ q, 0 ≤ q → q < N s' 0 2 → SRt N s' R2 q) → sl_At l mX7_buildSettled 7 [(0, vR s' 0), (1, vR s 0), (2, vI m), (3, vI x)] [] N Q := by
    intro n
    induction n with
    | zero =>
      intro x N hx x0 hF q2 hq
      refine vX7_buildSettled_7 hs' hs fun _ _ _ => ?_
      rw [hF s 0 2 (by unfold StA; omega), h2]
      refine ⟨fun _ => kX0_empty c10' fun N' hN' n11 n12 hE => ⟨rfl, by omega, ?_⟩, fun z => by omega⟩
      rw [if_neg (by omega)] at q2
      refine prog (ly R rho 0 0).toNat 0 0 N' (by omega) (by omega) (by omega) hEnd2.1 rfl (fun o i j zz => by rw [hN' o i j (fun w => zz (Or.inr (Or.inl w)))]; exact hF o i j zz) (by rw [hN' s' 0 2 (by omega)]; omega) (fun q q0 q1 => ?_) (hE _ rfl) (fun p p0 p1 => by omega)
      obtain ⟨r1, r2, r3, r4, r5⟩ := hq q q0 (by omega)
      have f1 : ∀ i j, N' (rO s' q + 30) i j = N (rO s' q + 30) i j := fun i j => hN' _ i j (by unfold rO; omega)
      have f0 : ∀ i j, N' (rO s' q) i j = N (rO s' q) i j := fun i j => hN' _ i j (by unfold rO; omega)
      exact ⟨r1.frame f1, by rw [f0]; exact r2, by rw [f0]; exact r3, by rw [f0]; exact r4, fun e he => by rw [f0]; exact r5 e he⟩
    | succ n ih =>
      intro x N hx x0 hF q2 hq
      refine vX7_buildSettled_7 hs' hs fun _ _ _ => ?_
      rw [hF s 0 2 (by unfold StA; omega), h2]
      refine ⟨fun z => by omega, fun _ => ⟨fun z => ⟨by omega, ih (x + 1) N (by omega) (by omega) hF (by rw [q2, if_pos (by omega), if_neg (by omega)]; omega) hq⟩, fun z => ?_⟩⟩
      -- method x comes to place r
      have hr : N s' 0 2 = (if x ≤ m then x else x - 1) := q2
      have rr : 0 ≤ N s' 0 2 ∧ N s' 0 2 < R2 761 ∧ mo m (N s' 0 2) = x := by
        rw [q2]; unfold mo
        by_cases w : x ≤ m
        · rw [if_pos w, if_pos (by omega)]; omega
        · rw [if_neg w, if_neg (by omega)]; omega
      obtain ⟨r1, r2, r3, r4, r5⟩ := hR x x0 (by omega)
      have k1 := cls_r hs (m := x) (by omega)
      have k2 := cls_r hs' (m := N s' 0 2) (by omega)
      have f1 : ∀ i j, N (rO s x + 30) i j = M (rO s x + 30) i j := fun i j => hF _ i j (by unfold StA rO; omega)
      have f0 : ∀ i j, N (rO s x) i j = M (rO s x) i j := fun i j => hF _ i j (by unfold StA rO; omega)
      have mgx := hG.2.2.1 x x0 (by omega)
      have enx := mgx.ends hT
      refine ⟨by omega, by omega, kX5_copyFrom (B := bod R x) k2.1 k1.1 k2.2.1 k1.2.1 (by omega) (r1.frame f1) (fun k k0 k1 => m8_uses) (fun N' c1 c2 c3 c4 c5 c6 => ⟨rfl, ?_⟩)⟩
      have g2 : N' s' 0 2 = N s' 0 2 := c6 s' 0 2 (by omega) (by omega)
      show sl_rg (N' s' 0 2 + 1) ∧ _
      rw [g2]
      refine ⟨by omega, fun M10 e10 => ⟨by omega, ?_⟩⟩
      have f10 : ∀ o i j, ¬ (o = s' ∧ i = 0 ∧ j = 2) → M10 o i j = N' o i j := fun o i j zz => by rw [e10]; simp only [sl_wr]; rw [if_neg (by omega)]
      refine ih (x + 1) M10 (by omega) (by omega) (fun o i j zz => ?_) (by rw [e10, sl_wr_s, q2]; split <;> split <;> omega) (fun q q0 q1 => ?_)
      · have u1 : o ≠ rO s' (N s' 0 2) := fun w => zz (by unfold StA; rw [w]; unfold rO; omega)
        have u2 : o ≠ rO s' (N s' 0 2) + 30 := fun w => zz (by unfold StA; rw [w]; unfold rO; omega)
        rw [f10 o i j (fun w => zz (Or.inl w.1)), c6 o i j u1 u2]; exact hF o i j zz
      · have eq2 : M10 s' 0 2 = N s' 0 2 + 1 := by rw [e10, sl_wr_s]
        rw [eq2] at q1
        by_cases eq : q = N s' 0 2
        · obtain ⟨b1, b2, b3, b4, b5, b6, b7⟩ := hX.meth (k := q) q0 (by omega)
          obtain ⟨a1, a2, a3, a4, a5, a6⟩ := hX.2.2.1 q q0 (by omega)
          have emo : mo m q = x := by rw [eq]; exact rr.2.2
          rw [emo] at b1 b2 b3 a3 a6
          have h1 : ∀ i j, M10 (rO s' q + 30) i j = N' (rO s' q + 30) i j := fun i j => f10 _ i j (by unfold rO; omega)
          have h0 : ∀ i j, M10 (rO s' q) i j = N' (rO s' q) i j := fun i j => f10 _ i j (by unfold rO; omega)
          have hh1 : CdA N' (rO s' q + 30) (bod R2 q) := by rw [b1, eq]; exact c1
          refine ⟨hh1.frame h1, ?_, ?_, ?_, fun e he => ?_⟩
          · rw [h0, eq, c2, f0, r2, ← eq, a3]
          · rw [h0, eq, c3, f0, r3, ← eq, b2]
          · rw [h0, eq, c4, f0, r4, ← eq, b3]
          · rw [h0, eq, c5 e he, f0, r5 e he, ← eq, b2, b3, a6 _ sp_bd.1 sp_bd.2]
        · obtain ⟨r1, r2, r3, r4, r5⟩ := hq q q0 (by omega)
          have h1 : ∀ i j, M10 (rO s' q + 30) i j = N (rO s' q + 30) i j := fun i j => by rw [f10 _ i j (by unfold rO; omega), c6 _ i j (by unfold rO; omega) (by unfold rO; omega)]
          have h0 : ∀ i j, M10 (rO s' q) i j = N (rO s' q) i j := fun i j => by rw [f10 _ i j (by unfold rO; omega), c6 _ i j (by unfold rO; omega) (by unfold rO; omega)]
          exact ⟨r1.frame h1, by rw [h0]; exact r2, by rw [h0]; exact r3, by rw [h0]; exact r4, fun e he => by rw [h0]; exact r5 e he⟩
  refine eX7_buildSettled (vX7_buildSettled_0 hs' hs fun _ _ M1 e1 => ?_)
  have z2 : M1 s' 0 2 = 0 := by rw [e1, sl_wr_s]
  refine meth (R 761).toNat 0 M1 (by omega) (by omega) (fun o i j zz => ?_) (by rw [z2, if_pos hm.1]) (fun q q0 q1 => by omega)
  rw [e1]; simp only [sl_wr]; rw [if_neg (fun w => zz (Or.inl w.1))]
end S
