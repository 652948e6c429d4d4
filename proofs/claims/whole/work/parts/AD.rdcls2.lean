/-! The class closes a block, and reads a text -/
section K
variable {l : Launch} {M : sl_M} {Q : sl_R} {t B k : Int → Int} {L q d p : Int} {c : Nat}
theorem tp_7 {R : Int → Int} {j : Int} : tp R 7 j = 16434824 := rfl
theorem CdA.els {N : sl_M} {u : Int} (h : CdA M c (tp B)) (hu : 0 ≤ u ∧ u < B 0) (hN : ∀ i j, ¬ (i = 5 ∧ j = u) → N c i j = M c i j) (h5 : N c 5 u = 1) : CdA N c (tp (elB B u)) := by
  obtain ⟨w, b, s, e, f, g⟩ := h
  have n0 : 0 ≤ B 0 ∧ B 0 ≤ 40 := w.n0
  have fe : ∀ j, j ≠ 161 + u → elB B u j = B j := fun j z => if_neg z
  have fu : elB B u (161 + u) = 1 := if_pos rfl
  generalize elB B u = B2 at *
  have f0 : B2 0 = B 0 := fe 0 (by omega)
  have t0 : tp B2 0 0 = tp B 0 0 := f0
  have tB : tp B 0 0 = B 0 := rfl
  have rw5 : ∀ j, tp B2 5 j = B2 (161 + j) := fun _ => rfl
  have row : ∀ j, 0 ≤ j → j < B 0 → tp B2 1 j = tp B 1 j ∧ tp B2 2 j = tp B 2 j ∧ tp B2 3 j = tp B 3 j ∧ tp B2 4 j = tp B 4 j ∧ tp B2 6 j = tp B 6 j ∧ tp B2 7 j = tp B 7 j ∧ tp B2 11 j = tp B 11 j := fun j j0 j1 => ⟨fe (1 + j) (by omega), fe (81 + j) (by omega), fe (41 + j) (by omega), fe (121 + j) (by omega), fe (201 + j) (by omega), by rw [tp_7, tp_7], fe (241 + j) (by omega)⟩
  have q : ∀ n : Nat, (n : Int) ≤ B 0 → qs (tp B2) n = qs (tp B) n := by
    intro n
    induction n with
    | zero => intro _; rw [qs, qs]
    | succ n ih =>
      intro h
      rw [qs, qs, ih (by omega), (row n (by omega) (by omega)).2.2.2.2.2.2]
  have hC : Cd N c (tp B2) := by
    refine ⟨by rw [hN 0 11 (by omega), t0]; exact b.1, fun j j0 j1 => ?_⟩
    rw [t0, tB] at j1
    obtain ⟨r1, r2, r3, r4, -⟩ := row j j0 j1
    rw [hN 1 j (by omega), hN 2 j (by omega), hN 3 j (by omega), hN 4 j (by omega), r1, r2, r3, r4]
    exact b.2 j j0 j1
  have hS : CdS N c (tp B2) := by
    intro j j0 j1
    rw [t0, tB] at j1
    obtain ⟨s1, s2, s3, s4, s5, s6, s7, s8, s9⟩ := s j j0 j1
    obtain ⟨r1, r2, r3, r4, r6, r7, r11⟩ := row j j0 j1
    have e10 : tp B2 10 j = tp B 10 j := uses_cong (A := B) (A' := B2) s2 (fe (241 + j) (by omega)) (fun i i0 i1 => fe _ (by omega))
    rw [r11, r1, r6, r7, e10, hN 9 j (by omega), hN 8 j (by omega), hN 6 j (by omega), hN 10 j (by omega), hN 7 j (by omega)]
    refine ⟨s1, s2, s3, fun i i0 i1 => ?_, s5, s6, ?_, s8, s9⟩
    · rw [hN 11 _ (by omega), s4 i i0 i1, tp12 i0 (by omega), tp12 i0 (by omega), fe _ (by omega)]
    · rw [rw5]
      by_cases ej : j = u
      · rw [ej, fu]; exact h5
      · rw [hN 5 j (by omega), fe _ (by omega)]; exact s7
  refine ⟨w.same t0 (fun j j0 j1 => ?_), hC, hS, ?_, ?_, fun j j0 j1 => ?_⟩
  · rw [tB] at j1
    obtain ⟨r1, r2, r3, r4, -⟩ := row j j0 j1
    exact ⟨r1, r2, r3, r4⟩
  · rw [hN 0 12 (by omega), t0, q _ (by rw [tB]; omega)]; exact e
  · rw [t0, q _ (by rw [tB]; omega)]; exact f
  · rw [t0, tB] at j1
    rw [hN 8 j (by omega), q _ (by omega)]; exact g j j0 j1
theorem kX4_closeBlock0 (h3 : M 2 0 3 = -1) (hQ : Q (some (vI 0)) M) : sl_Runs l mX4_closeBlock [vR 2 0] M Q := eX4_closeBlock (vX4_closeBlock_0 fun _ => ⟨fun z => (z h3).elim, fun _ => hQ⟩)
theorem kX4_closeBlock (h : CTx M c t L) (hR : CRl M c q d B k) (hI : RIv L p d B k) (hd0 : 0 < d) (hq : p ≤ q ∧ q < L) (hQ : ∀ N r, r = rdC t L q d B k → FCr M N c → CRl N c r.2.1 r.2.2.1 r.2.2.2.1 r.2.2.2.2 → Q (some (vI 1)) N) : sl_Runs l mX4_closeBlock [vR 2 0] M Q := by
  obtain ⟨r4, r3, hC⟩ := hR
  obtain ⟨hp, hd, hT, hS, hz⟩ := hI
  have hx0 := h
  obtain ⟨h1, h2, h3, h4, h5, h6, h7⟩ := h
  have cc := cls_02 h1
  have n0 : 0 ≤ B 0 ∧ B 0 ≤ 40 := hT.1.n0
  obtain ⟨u1, u2, u3, u4, u5, u6⟩ := hS (d - 1) (by omega) (by omega)
  have et : tpo d k = k (d - 1) := if_neg (by omega)
  have et2 := hS.pop hd0
  rw [et] at r3
  have c1 : M c 1 (k (d - 1)) = B (1 + k (d - 1)) := (hC.2.1.2 _ u1.1 u1.2).1
  have c2 : M c 2 (k (d - 1)) = B (81 + k (d - 1)) := (hC.2.1.2 _ u1.1 u1.2).2.1
  have c5 : M c 5 (k (d - 1)) = B (161 + k (d - 1)) := (hC.2.2.1 _ u1.1 u1.2).2.2.2.2.2.2.1
  unfold rdC at hQ
  refine eX4_closeBlock (vX4_closeBlock_0 fun _ => ⟨fun _ => ?_, fun z => absurd (by rw [r3]; omega) z⟩)
  rw [r4]
  refine ⟨by omega, fun M3 e3 => ⟨c, ?_⟩⟩
  have f3 : ∀ (o i : Nat) (j : Int), ¬ (o = 2 ∧ i = 0 ∧ j = 4) → M3 o i j = M o i j := fun o i j z => by rw [e3]; simp only [sl_wr]; rw [if_neg z]
  have F3 : FCr M M3 c := fun o i j z => f3 o i j (by omega)
  have a3 : M3 2 0 3 = k (d - 1) := by rw [f3 2 0 3 (by omega)]; exact r3
  have a4 : M3 2 0 4 = q + 1 := by rw [e3]; exact sl_wr_s
  have fc : ∀ i j, M3 c i j = M c i j := fun i j => f3 c i j (by omega)
  rw [a3, fc, fc, fc, c1, c2, c5, f3 2 0 2 (by omega)]
  -- the block is closed for good
  have done : ∀ (V N : sl_M) (p' : Int), FCr M V c → (∀ i j, V c i j = M c i j) → V 2 0 4 = p' → N = sl_wr V 2 0 3 (B (81 + k (d - 1))) → FCr M N c ∧ CRl N c p' (d - 1) B k := by
    intro V N p' fV vc v4 e
    have fN : ∀ (o i : Nat) (j : Int), ¬ (o = 2 ∧ i = 0 ∧ j = 3) → N o i j = V o i j := fun o i j z => by rw [e]; simp only [sl_wr]; rw [if_neg z]
    refine ⟨fV.tr (fun o i j z => fN o i j (by omega)), by rw [fN 2 0 4 (by omega)]; exact v4, ?_, hC.frame (fun i j => by rw [fN c i j (by omega)]; exact vc i j)⟩
    rw [et2, e]; exact sl_wr_s
  have stay : ¬ (B (1 + k (d - 1)) = 5 ∧ B (161 + k (d - 1)) = 0) → ∀ M7, M7 = sl_wr M3 2 0 3 (B (81 + k (d - 1))) → Q (some (vI 1)) M7 := fun z M7 e7 => by
    obtain ⟨g1, g2⟩ := done M3 M7 (q + 1) F3 fc a4 e7
    have := hQ M7 _ rfl g1
    rw [if_neg z] at this
    exact this g2
  refine ⟨⟨h2, h1⟩, by omega, fun z => stay (fun w => z w.1), fun z => ⟨fun z2 => stay (fun w => z2 w.2), fun z2 => ?_⟩⟩
  have cb : B (1 + k (d - 1)) = 5 ∧ B (161 + k (d - 1)) = 0 := ⟨Classical.byContradiction z, Classical.byContradiction z2⟩
  rw [if_pos cb] at hQ
  refine kX4_expectT (F3.txt hx0) a4 (by omega) (by omega) (fun y ylt N fN gN n4 => ⟨_, rfl, fun w => absurd w (by show ¬ ((1 : Int) = 0); omega), fun _ => ⟨c, ⟨by rw [gN 2 0 2 (by omega), f3 2 0 2 (by omega)]; exact h2, h1⟩, ?_⟩⟩) (fun y N fN gN n4 => ⟨_, rfl, fun _ => ⟨c, ⟨by rw [gN 2 0 2 (by omega), f3 2 0 2 (by omega)]; exact h2, h1⟩, ?_⟩, fun w => (w rfl).elim⟩)
  · have b3 : N 2 0 3 = k (d - 1) := by rw [gN 2 0 3 (by omega)]; exact a3
    show (0 ≤ N 2 0 3 ∧ N 2 0 3 < 40) ∧ (∀ M18, M18 = sl_wr N c 5 (N 2 0 3) 1 → Q (some (vI 1)) M18)
    rw [b3]
    refine ⟨by omega, fun M18 e18 => ?_⟩
    have f18 : ∀ (o i : Nat) (j : Int), ¬ (o = c ∧ i = 5 ∧ j = k (d - 1)) → M18 o i j = N o i j := fun o i j w => by rw [e18]; simp only [sl_wr]; rw [if_neg w]
    have := hQ M18 _ rfl ((F3.tr fN).tr (fun o i j w => f18 o i j (by omega)))
    rw [if_pos y] at this
    refine this ⟨by rw [f18 2 0 4 (by omega)]; exact n4, ?_, hC.els u1 (fun i j w => by rw [f18 c i j (by omega), gN c i j (by omega)]; exact fc i j) (by rw [e18]; exact sl_wr_s)⟩
    rw [f18 2 0 3 (by omega), b3]; exact et.symm
  · have b3 : N 2 0 3 = k (d - 1) := by rw [gN 2 0 3 (by omega)]; exact a3
    have nc : ∀ i j, N c i j = M c i j := fun i j => by rw [gN c i j (by omega)]; exact fc i j
    show (0 ≤ N 2 0 3 ∧ N 2 0 3 < 40) ∧ (∀ M15, M15 = sl_wr N 2 0 3 (N c 2 (N 2 0 3)) → Q (some (vI 1)) M15)
    rw [b3, nc, c2]
    refine ⟨by omega, fun M15 e15 => ?_⟩
    obtain ⟨g1, g2⟩ := done N M15 _ (F3.tr fN) nc n4 e15
    have := hQ M15 _ rfl g1
    rw [if_neg y] at this
    exact this g2
/-- what parsing changes -/
def FCp (M N : sl_M) (c : Nat) : Prop := ∀ (o i : Nat) (j : Int), ¬ (o = c ∨ o = 2) → N o i j = M o i j
theorem kX4_parse (hc : sl_cls c = 0) (c100 : c < 100) (hL : 0 ≤ L ∧ L ≤ 160) (ht : M 0 1 = t) (hn : ∀ q, 0 ≤ q → q < L → 0 ≤ t q) (hF : (rdA t L).1 = 0 → ∀ N, FCp M N c → N 2 0 4 = (rdA t L).2.1 → Q (some (vI 0)) N) (hQ : (rdA t L).1 ≠ 0 → ∀ N, FCp M N c → CdA N c (tp (rdA t L).2.2.2.1) → Q (some (vI 1)) N) : sl_Runs l mX4_parse [vR 2 0, vR 0 1, vI L, vR c 0] M Q := by
  have cc := cls_02 hc
  generalize hrr : rdA t L = r at *
  have loop : ∀ (n : Nat) (x p d : Int) (B k : Int → Int) (N : sl_M), x + n = 161 → 0 ≤ x → x ≤ p → RIv L p d B k → FCp M N c → CTx N c t L → CRl N c p d B k → rdL t L n (p, d, B, k) = r → sl_At l mX4_parse 40 [(0, vR 2 0), (4, vI x)] [] N Q := by
    intro n
    induction n with
    | zero =>
      intro x p d B k N hx x0 xp hI fN hT hR eR
      have := hI.1
      omega
    | succ n ih =>
      intro x p d B k N hx x0 xp hI fN hT hR eR
      have hp := hI.1
      have rr := sp_rng (t := t) hp.2
      have hd := hI.2.1
      have tr' := tpo_rng hI
      rw [rdL] at eR
      refine vX4_parse_40 fun _ _ => ⟨fun z => by omega, fun _ => kX4_lookT hT hR.1 hp (fun V fV gV v4 => ⟨_, rfl, ?_⟩)⟩
      have F : FCp M V c := fun o i j z => by rw [fV o i j (by omega)]; exact fN o i j z
      have hTV := fV.txt hT
      have v3 : V 2 0 3 = tpo d k := by rw [gV 2 0 3 (by omega)]; exact hR.2.1
      have vC : CdA V c (tp B) := hR.2.2.frame (fun i j => gV c i j (by omega))
      by_cases ce : L ≤ sp t L p
      · rw [if_pos ce] at eR
        have ec : ch t L (sp t L p) = -1 := if_pos ce
        rw [ec]
        refine ⟨fun z => (z rfl).elim, fun _ => ?_⟩
        rw [v3]
        by_cases d0 : d = 0
        · have et : tpo d k = -1 := if_pos d0
          rw [if_pos (fun w => w et)]
          have e1 : r.1 ≠ 0 := by rw [← eR]; show (if d = 0 then (1 : Int) else 0) ≠ 0; rw [if_pos d0]; omega
          have := hQ e1 V F
          rw [← eR] at this
          exact this vC
        · have et : tpo d k ≠ -1 := by
            rw [show tpo d k = k (d - 1) from if_neg d0]
            have := (hI.2.2.2.1 (d - 1) (by omega) (by omega)).1
            omega
          rw [if_neg (fun w => w et)]
          have e1 : r.1 = 0 := by rw [← eR]; show (if d = 0 then (1 : Int) else 0) = 0; rw [if_neg d0]
          have := hF e1 V F
          rw [← eR] at this
          exact this v4
      · rw [if_neg ce] at eR
        have ec : ch t L (sp t L p) = t (sp t L p) := if_neg ce
        have tq := hn (sp t L p) (by omega) (by omega)
        have inv := rdT_inv (t := t) (q := sp t L p) hI (by omega)
        have hRV : CRl V c (sp t L p) d B k := ⟨v4, v3, vC⟩
        rw [ec]
        have next : ∀ (U : sl_M), FCr V U c → (rdT t L (sp t L p) d B k).1 ≠ 0 → CRl U c (rdT t L (sp t L p) d B k).2.1 (rdT t L (sp t L p) d B k).2.2.1 (rdT t L (sp t L p) d B k).2.2.2.1 (rdT t L (sp t L p) d B k).2.2.2.2 → sl_rg (x + 1) ∧ sl_At l mX4_parse 40 [(0, vR 2 0), (4, vI (x + 1))] [] U Q := by
          intro U fU z hU
          rw [if_neg z] at eR
          obtain ⟨i1, i2, i3⟩ := inv z
          generalize rdT t L (sp t L p) d B k = w at *
          exact ⟨by omega, ih (x + 1) w.2.1 w.2.2.1 w.2.2.2.1 w.2.2.2.2 U (by omega) (by omega) (by omega) i1 (fun o i j y => by rw [fU o i j (by omega)]; exact F o i j y) (fU.txt hTV) hU eR⟩
        refine ⟨fun _ => ⟨fun z => ?_, fun z => ?_⟩, fun z => by omega⟩
        · have eT : rdT t L (sp t L p) d B k = rdS t L (sp t L p) d B k := if_neg (fun w => z w.1)
          rw [eT] at next eR
          refine kX4_readStatement hTV hRV hI (by omega) (fun U w ew fU u0 u1 => ⟨_, rfl, fun y => ?_, fun y => ?_⟩)
          · rw [ew] at y u1
            exact next U fU y (u1 y)
          · have y' : w.1 = 0 := Classical.byContradiction y
            rw [if_pos (by rw [← ew]; exact y')] at eR
            have e1 : r.1 = 0 := by rw [← eR, ← ew]; exact y'
            have := hF e1 U (fun o i j y => by rw [fU o i j (by omega)]; exact F o i j y)
            rw [← eR, ← ew] at this
            exact this (u0 y')
        · have z' : t (sp t L p) = 125 := Classical.byContradiction z
          by_cases d0 : d = 0
          · have eT : rdT t L (sp t L p) d B k = rdS t L (sp t L p) d B k := if_neg (fun w => by omega)
            have eS : rdS t L (sp t L p) d B k = (0, sp t L p, d, B, k) := by
              have b : rdB (kdA (t (sp t L p))) d B k := Or.inl (by rw [z']; rfl)
              unfold rdS
              rw [if_pos b]
            rw [eT, eS, if_pos rfl] at eR
            refine kX4_closeBlock0 (by rw [v3]; exact if_pos d0) ⟨_, rfl, fun y => (y rfl).elim, fun _ => ?_⟩
            have e1 : r.1 = 0 := by rw [← eR]
            have := hF e1 V F
            rw [← eR] at this
            exact this v4
          · have eT : rdT t L (sp t L p) d B k = rdC t L (sp t L p) d B k := if_pos ⟨z', by omega⟩
            have i3 := rdC_inv (t := t) (q := sp t L p) hI (by omega) (by omega)
            refine kX4_closeBlock hTV hRV hI (by omega) (by omega) (fun U w ew fU u1 => ⟨_, rfl, fun _ => next U fU ?_ ?_, fun y => absurd (by show (1 : Int) ≠ 0; omega) y⟩)
            · rw [eT, i3.2.2]; omega
            · rw [eT, ← ew]; exact u1
  refine eX4_parse (vX4_parse_0 hc fun _ _ M1 e1 M2 e2 => ⟨c100, fun M4 e4' => ⟨c, ⟨by rw [e4']; exact sl_wr_s, hc⟩, kX0_empty hc (fun M6 g6 _ _ g9 => ⟨rfl, fun M7 e7 M8 e8 => ?_⟩)⟩⟩)
  have f8 : ∀ (o i : Nat) (j : Int), ¬ (o = 2 ∧ i = 0 ∧ (j = 3 ∨ j = 4)) → M8 o i j = M6 o i j := fun o i j z => by rw [e8, e7]; simp only [sl_wr]; rw [if_neg (by omega), if_neg (by omega)]
  have f4 : ∀ (o i : Nat) (j : Int), ¬ (o = 2 ∧ i = 0 ∧ (j = 0 ∨ j = 1 ∨ j = 2)) → M4 o i j = M o i j := fun o i j z => by rw [e4', e2, e1]; simp only [sl_wr]; rw [if_neg (by omega), if_neg (by omega), if_neg (by omega)]
  have F : FCp M M8 c := fun o i j z => by rw [f8 o i j (by omega), g6 o i j (by omega), f4 o i j (by omega)]
  refine loop 161 0 0 0 (fun _ => 0) (fun _ => 0) M8 (by omega) (by omega) (by omega) (RIv.nil hL.1) F ⟨hc, ?_, ?_, ?_, hL, ?_, hn⟩ ⟨?_, ?_, (g9 _ rfl).frame (fun i j => f8 c i j (by omega))⟩ hrr
  · rw [f8 2 0 2 (by omega), g6 2 0 2 (by omega), e4']; exact sl_wr_s
  · rw [f8 2 0 0 (by omega), g6 2 0 0 (by omega), e4', e2, e1]; simp [sl_wr]
  · rw [f8 2 0 1 (by omega), g6 2 0 1 (by omega), e4', e2]; simp [sl_wr]; omega
  · funext x; rw [F 0 1 x (by omega), ht]
  · rw [e8]; exact sl_wr_s
  · rw [e8, e7]; simp [sl_wr]
end K
