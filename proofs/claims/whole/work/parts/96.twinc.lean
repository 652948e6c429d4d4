/-! The class finds the spans that are alike -/
/-- the replacements under way -/
def Tw (N : sl_M) (to : Int → Int) : Prop := Inj to ∧ (∀ v, 0 ≤ v → v < 8 → N 8 2 v = to v) ∧ ∀ w : Nat, w < 8 → (bt (N 8 0 2) w = true ↔ ∃ v, 0 ≤ v ∧ v < 8 ∧ to v = w)
def FT (M N : sl_M) : Prop := ∀ o i j, ¬ (o = 8 ∧ (i = 2 ∨ (i = 0 ∧ j = 2))) → N o i j = M o i j
theorem FT.tr {M N O : sl_M} (h1 : FT M N) (h2 : FT N O) : FT M O := fun o i j z => (h2 o i j z).trans (h1 o i j z)
theorem FT.rf {M : sl_M} : FT M M := fun _ _ _ _ => rfl
section K
variable {l : Launch} {M : sl_M} {Q : sl_R} {P : Pg} {c : Nat}
theorem kX8_replaces {to : Int → Int} (hT : Tw M to) {v w : Int} (hv : 0 ≤ v ∧ v < 8) (hw : 0 ≤ w ∧ w < 8) (hQ : ∀ to' N, rp to v w = some to' → Tw N to' → FT M N → Q (some (vI 1)) N) (hN : rp to v w = none → Q (some (vI 0)) M) : sl_Runs l mX8_replaces [vR 8 0, vI v, vI w] M Q := by
  have tv := hT.2.1 v hv.1 hv.2
  have bw := hT.2.2 w.toNat (by omega)
  rw [show ((w.toNat : Nat) : Int) = w by omega] at bw
  refine eX8_replaces (vX8_replaces_0 fun _ _ _ => ⟨hv, fun z => ?_, fun z => ⟨fun z2 => ?_, fun z2 M6 e6 M7 e7 => ?_⟩⟩)
  · rw [tv] at z ⊢
    by_cases e : to v = w
    · rw [if_pos (by omega)]; exact hQ to M (rp_eq e) hT FT.rf
    · rw [if_neg (by omega)]; exact hN (rp_no e (fun q => z q.1))
  · rw [tv] at z ⊢
    rw [if_neg (by omega)]
    refine hN (rp_no (by omega) (fun q => ?_))
    obtain ⟨u, u0, u1, u2⟩ := bw.mp ((has0 (by omega)).mp z2)
    exact q.2 u u0 u1 u2
  · rw [tv] at z
    have v6 : M6 8 0 2 = M 8 0 2 := by rw [e6]; simp only [sl_wr]; rw [if_neg (by omega)]
    have v7 : M7 8 2 v = w := by rw [e7, e6]; simp [sl_wr]
    rw [v7, if_pos (by omega)]
    have nw : nwd to w := fun u u0 u1 e => z2 ((has0 (by omega)).mpr (bw.mpr ⟨u, u0, u1, e⟩))
    have er := rp_new (to := to) (v := v) (w := w) (by omega) (by omega) nw
    refine hQ _ M7 er ⟨(hT.1.rp hv hw er).1, fun u u0 u1 => ?_, fun x hx => ?_⟩ (fun o i j zz => ?_)
    · by_cases eu : u = v
      · rw [eu, v7, up_s]
      · rw [up_o eu, e7, e6]; simp only [sl_wr]; rw [if_neg (by omega), if_neg (by omega)]; exact hT.2.1 u u0 u1
    · have e02 : M7 8 0 2 = ior (M 8 0 2) (ishl 1 w) := by rw [e7, sl_wr_s, v6]
      rw [e02, bt_ior, Bool.or_eq_true, bt_shl hw, decide_eq_true_iff, hT.2.2 x hx]
      constructor
      · rintro (⟨u, u0, u1, u2⟩ | e)
        · refine ⟨u, u0, u1, ?_⟩
          have : u ≠ v := fun q => by rw [q] at u2; omega
          rw [up_o this]; exact u2
        · exact ⟨v, hv.1, hv.2, by rw [up_s]; exact e.symm⟩
      · rintro ⟨u, u0, u1, u2⟩
        by_cases eu : u = v
        · rw [eu, up_s] at u2; exact Or.inr u2.symm
        · rw [up_o eu] at u2; exact Or.inl ⟨u, u0, u1, u2⟩
    · rw [e7, e6]; simp only [sl_wr]; rw [if_neg (by omega), if_neg (by omega)]
theorem FT.cd {N : sl_M} (h : FT M N) (hc : sl_cls c = 0) : ∀ i j, N c i j = M c i j := fun i j => h c i j (fun z => by have e := z.1; rw [e] at hc; exact absurd hc (by decide))
theorem kX8_sameNames {to : Int → Int} (hT : Tw M to) (hc : sl_cls c = 0) (hw : WF P) (hC : Cd M c P) (hS : CdS M c P) {k t : Int} (hk : 0 ≤ k ∧ k < P 0 0) (ht : 0 ≤ t ∧ t < P 0 0) (h1 : P 1 k = P 1 t) (h11 : P 11 k = P 11 t) (hQ : ∀ to' N, nm1 P k t to = some to' → Tw N to' → FT M N → Q (some (vI 1)) N) (hN : nm1 P k t to = none → ∀ N, FT M N → Q (some (vI 0)) N) : sl_Runs l mX8_sameNames [vR 8 0, vR c 0, vI k, vI t] M Q := by
  have n0 := hw.n0
  obtain ⟨s1, s2, s3, s4, s5, s6, s7, s8, s9⟩ := hS k hk.1 hk.2
  obtain ⟨t1, t2, t3, t4, t5, t6, t7, t8, t9⟩ := hS t ht.1 ht.2
  have hk1 := (hC.2 k hk.1 hk.2).1
  have loop : ∀ (n : Nat) (i : Int) (N : sl_M) (to1 : Int → Int), i + n = P 11 k → 0 ≤ i → Tw N to1 → FT M N → nm1 P k t to = (sm P k t n i to1).bind (fun to' => if P 1 k = 0 then rp to' (P 6 k) (P 6 t) else some to') → sl_At l mX8_sameNames 3 [(0, vR 8 0), (1, vR c 0), (2, vI k), (3, vI t), (4, vI i)] [] N Q := by
    intro n
    induction n with
    | zero =>
      intro i N to1 hi i0 hTn hF he
      have fc := hF.cd hc
      refine vX8_sameNames_3 hc fun _ _ _ _ => ?_
      rw [fc 9 k, s1, fc 1 k, hk1]
      rw [sm] at he
      refine ⟨by omega, fun _ => ⟨fun z => ?_, fun z => ⟨by omega, ?_⟩⟩, fun z => by omega⟩
      · have he : nm1 P k t to = (if P 1 k = 0 then rp to1 (P 6 k) (P 6 t) else some to1) := he
        rw [if_neg z] at he
        exact hQ to1 N he hTn hF
      · have z : P 1 k = 0 := by omega
        have he : nm1 P k t to = (if P 1 k = 0 then rp to1 (P 6 k) (P 6 t) else some to1) := he
        rw [if_pos z] at he
        rw [fc 6 k, fc 6 t, (s5 z).1, (t5 (by omega)).1]
        refine kX8_replaces hTn (s5 z).2 (t5 (by omega)).2 (fun to' N' e1 e2 e3 => ⟨_, rfl, ?_⟩) (fun e1 => ⟨_, rfl, ?_⟩)
        · show Q (some (vI (if ¬ ((1 : Int) = 0) then 1 else 0))) N'
          rw [if_pos (by omega)]; exact hQ to' N' (by rw [he, e1]) e2 (hF.tr e3)
        · show Q (some (vI (if ¬ ((0 : Int) = 0) then 1 else 0))) N
          rw [if_neg (by omega)]; exact hN (by rw [he, e1]) N hF
    | succ n ih =>
      intro i N to1 hi i0 hTn hF he
      have fc := hF.cd hc
      have hSN := hS.frame fc
      refine vX8_sameNames_3 hc fun _ _ _ _ => ?_
      rw [fc 9 k, s1]
      refine ⟨by omega, fun z => by omega, fun _ => kX0_symbol hc hw hSN hk i0 ⟨_, rfl, kX0_symbol hc hw hSN ht i0 ⟨_, rfl, ?_⟩⟩⟩
      have ek : sgn P k i = P 12 (16 * k + i) := by unfold sgn; rw [if_neg (by omega)]
      have et : sgn P t i = P 12 (16 * t + i) := by unfold sgn; rw [if_neg (by omega)]
      rw [ek, et]
      rw [sm] at he
      intro v ev w ew
      unfold sp_var at ev ew
      have step : ¬ ((97 ≤ P 12 (16 * k + i) ∧ P 12 (16 * k + i) ≤ 104) ∧ 97 ≤ P 12 (16 * t + i) ∧ P 12 (16 * t + i) ≤ 104) → (P 12 (16 * k + i) = P 12 (16 * t + i) → sl_rg (i + 1) ∧ sl_At l mX8_sameNames 3 [(0, vR 8 0), (1, vR c 0), (2, vI k), (3, vI t), (4, vI (i + 1))] [] N Q) ∧ (¬ P 12 (16 * k + i) = P 12 (16 * t + i) → Q (some (vI 0)) N) := by
        intro nc
        rw [if_neg nc] at he
        refine ⟨fun e => ⟨by omega, ?_⟩, fun e => ?_⟩
        · rw [if_pos e] at he
          exact ih (i + 1) N to1 (by omega) (by omega) hTn hF he
        · rw [if_neg e] at he
          exact hN he N hF
      refine ⟨fun z => step (fun q => by rw [if_pos (by omega)] at ev; omega), fun z => ⟨fun z2 => ?_, fun z2 => step (fun q => by rw [if_pos (by omega)] at ew; omega)⟩⟩
      by_cases ck : 97 ≤ P 12 (16 * k + i) ∧ P 12 (16 * k + i) < 105
      · by_cases ct : 97 ≤ P 12 (16 * t + i) ∧ P 12 (16 * t + i) < 105
        · rw [if_pos ck] at ev
          rw [if_pos ct] at ew
          rw [if_pos (by omega), ← ev, ← ew] at he
          refine kX8_replaces hTn (by omega) (by omega) (fun to' N' e1 e2 e3 => ⟨_, rfl, fun _ => ⟨by omega, ?_⟩, fun q => by omega⟩) (fun e1 => ⟨_, rfl, fun q => by omega, fun _ => ?_⟩)
          · exact ih (i + 1) N' to' (by omega) (by omega) e2 (hF.tr e3) (by rw [he, e1]; rfl)
          · exact hN (by rw [he, e1]; rfl) N hF
        · rw [if_neg ct] at ew; omega
      · rw [if_neg ck] at ev; omega
  exact eX8_sameNames (vX8_sameNames_0 hc fun _ _ _ => loop (P 11 k).toNat 0 M to (by omega) (by omega) hT FT.rf rfl)
theorem kX8_sameShape (hc : sl_cls c = 0) (hw : WF P) (hC : Cd M c P) (hS : CdS M c P) {k t : Int} (hk : 0 ≤ k ∧ k < P 0 0) (ht : 0 ≤ t ∧ t < P 0 0) (hQ : Q (some (vI (if P 1 k ≠ 7 ∧ P 1 k = P 1 t ∧ P 5 k = P 5 t ∧ P 11 k = P 11 t then 1 else 0))) M) : sl_Runs l mX8_sameShape [vR c 0, vI k, vI t] M Q := by
  have n0 := hw.n0
  obtain ⟨s1, s2, s3, s4, s5, s6, s7, s8, s9⟩ := hS k hk.1 hk.2
  obtain ⟨t1, t2, t3, t4, t5, t6, t7, t8, t9⟩ := hS t ht.1 ht.2
  refine eX8_sameShape (vX8_sameShape_0 hc fun _ _ _ => ?_)
  rw [(hC.2 k hk.1 hk.2).1, (hC.2 t ht.1 ht.2).1, s7, t7, s1, t1]
  refine ⟨by omega, fun _ => by omega, ?_⟩
  rw [b_congr (R := P 1 k ≠ 7 ∧ P 1 k = P 1 t ∧ P 5 k = P 5 t ∧ P 11 k = P 11 t) (by omega)]
  exact hQ
theorem kX8_samePlace (hc : sl_cls c = 0) (hw : WF P) (hC : Cd M c P) {i f x : Int} (hi : 0 ≤ i) (hf : 0 ≤ f) (x0 : 0 ≤ x) (hk : i + x < P 0 0) (ht : f + x < P 0 0) (hQ : Q (some (vI (if (P 2 (i + x) < i ∧ P 2 (f + x) < f) ∨ (i ≤ P 2 (i + x) ∧ f ≤ P 2 (f + x) ∧ P 2 (i + x) - i = P 2 (f + x) - f ∧ P 4 (i + x) = P 4 (f + x)) then 1 else 0))) M) : sl_Runs l mX8_samePlace [vR c 0, vI (i + x), vI i, vI f] M Q := by
  have n0 := hw.n0
  have p1 := hw.pr (k := i + x) (by omega) hk
  have p2 := hw.pr (k := f + x) (by omega) ht
  refine eX8_samePlace (vX8_samePlace_0 hc fun _ _ _ _ => ⟨by omega, fun y ey => ?_⟩)
  have ey : y = f + x := by omega
  subst ey
  rw [(hC.2 (i + x) (by omega) hk).2.1, (hC.2 (f + x) (by omega) ht).2.1, (hC.2 (i + x) (by omega) hk).2.2.2, (hC.2 (f + x) (by omega) ht).2.2.2]
  refine ⟨by omega, fun z => ⟨fun _ => by omega, ?_⟩, fun z => ⟨by omega, fun z2 => ⟨by omega, ?_⟩, fun z2 => ?_⟩⟩
  · rw [b_congr (R := (P 2 (i + x) < i ∧ P 2 (f + x) < f) ∨ (i ≤ P 2 (i + x) ∧ f ≤ P 2 (f + x) ∧ P 2 (i + x) - i = P 2 (f + x) - f ∧ P 4 (i + x) = P 4 (f + x))) (by omega)]
    exact hQ
  · rw [b_congr (R := (P 2 (i + x) < i ∧ P 2 (f + x) < f) ∨ (i ≤ P 2 (i + x) ∧ f ≤ P 2 (f + x) ∧ P 2 (i + x) - i = P 2 (f + x) - f ∧ P 4 (i + x) = P 4 (f + x))) (by omega)]
    exact hQ
  · rw [b_congr (R := (P 2 (i + x) < i ∧ P 2 (f + x) < f) ∨ (i ≤ P 2 (i + x) ∧ f ≤ P 2 (f + x) ∧ P 2 (i + x) - i = P 2 (f + x) - f ∧ P 4 (i + x) = P 4 (f + x))) (by omega)]
    exact hQ
theorem kX8_matches (hc : sl_cls c = 0) (hw : WF P) (hC : Cd M c P) (hS : CdS M c P) {i j f : Int} (hs : isp P i j) (hf : 0 ≤ f) (hfn : f + (P 3 j - i) ≤ P 0 0) (m0 : M 7 0 0 = i) (m2 : M 7 0 2 = P 3 j - 1) (hQ : ∀ to N, mtc P i j f to → Tw N to → FT M N → Q (some (vI 1)) N) (hN : (∀ to, ¬ mtc P i j f to) → ∀ N, FT M N → Q (some (vI 0)) N) : sl_Runs l mX8_matches [vR 8 0, vR c 0, vR 7 0, vI f] M Q := by
  have n0 := hw.n0
  obtain ⟨s1, s2, s3, s4, s5⟩ := hs
  have aj := hw.af (k := j) (by omega) s3
  have loop : ∀ (n : Nat) (x : Int) (N : sl_M) (to : Int → Int), x + n = P 3 j - i → 0 ≤ x → Tw N to → FT M N → nms P i f (P 3 j - i).toNat 0 (fun _ => -1) = nms P i f n x to → (∀ y, 0 ≤ y → y < x → shp P i f y) → sl_At l mX8_matches 35 [(0, vR 8 0), (1, vR c 0), (2, vR 7 0), (3, vI f), (4, vI (i + x))] [] N Q := by
    intro n
    induction n with
    | zero =>
      intro x N to hx x0 hT hF he hsh
      refine vX8_matches_35 hc rfl fun _ _ _ => ?_
      rw [hF 7 0 2 (by omega), m2]
      exact ⟨fun _ => hQ to N ⟨fun y y0 y1 => hsh y y0 (by omega), he⟩ hT hF, fun z => by omega⟩
    | succ n ih =>
      intro x N to hx x0 hT hF he hsh
      have fc := hF.cd hc
      have hCN := hC.frame fc
      have hSN := hS.frame fc
      refine vX8_matches_35 hc rfl fun _ _ _ => ?_
      rw [hF 7 0 2 (by omega), m2, hF 7 0 0 (by omega), m0]
      refine ⟨fun z => by omega, fun _ => ⟨by omega, fun y ey => ?_⟩⟩
      have ey : y = f + x := by omega
      subst ey
      have nosh : ¬ shp P i f x → ∀ N, FT M N → Q (some (vI 0)) N := fun z => hN (fun to' q => z (q.1 x x0 (by omega)))
      refine kX8_sameShape hc hw hCN hSN (by omega) (by omega) ⟨_, rfl, fun z => ?_, fun z => ?_⟩
      · rw [b_eq0] at z
        exact nosh (fun q => z ⟨q.1, q.2.1, q.2.2.1, q.2.2.2.1⟩) N hF
      · have z := b_ne0.mp z
        show sl_RI l mX8_samePlace [vR c 0, vI (i + x), vI (N 7 0 0), vI f] N _
        rw [hF 7 0 0 (by omega), m0]
        refine kX8_samePlace hc hw hCN s1 hf x0 (by omega) (by omega) ⟨_, rfl, fun z2 => ?_, fun z2 => ?_⟩
        · rw [b_eq0] at z2
          exact nosh (fun q => z2 q.2.2.2.2) N hF
        · have z2 := b_ne0.mp z2
          have hx1 : shp P i f x := ⟨z.1, z.2.1, z.2.2.1, z.2.2.2, z2⟩
          rw [nms] at he
          refine kX8_sameNames hT hc hw hCN hSN (k := i + x) (t := f + x) (by omega) (by omega) z.2.1 z.2.2.2 (fun to' N' e1 e2 e3 => ⟨_, rfl, fun _ => ⟨by omega, ?_⟩, fun q => by omega⟩) (fun e1 N' e3 => ⟨_, rfl, fun q => by omega, fun _ => ?_⟩)
          · rw [show i + x + 1 = i + (x + 1) by omega]
            refine ih (x + 1) N' to' (by omega) (by omega) e2 (hF.tr e3) (by rw [he, e1]; rfl) (fun y y0 y1 => ?_)
            by_cases ey : y = x
            · rw [ey]; exact hx1
            · exact hsh y y0 (by omega)
          · refine hN (fun to' q => ?_) N' (hF.tr e3)
            have := q.2
            rw [he, e1] at this
            cases this
  have init : ∀ (n : Nat) (x : Int) (N : sl_M), x + n = 8 → 0 ≤ x → FT M N → (∀ v, 0 ≤ v → v < x → N 8 2 v = -1) → sl_At l mX8_matches 3 [(0, vR 8 0), (1, vR c 0), (2, vR 7 0), (3, vI f), (4, vI x)] [] N Q := by
    intro n
    induction n with
    | zero =>
      intro x N hx x0 hF hv
      refine vX8_matches_3 hc rfl fun _ _ _ => ⟨fun _ M2 e2 => ?_, fun z => by omega⟩
      have f2 : FT M M2 := fun o a b zz => by rw [e2]; simp only [sl_wr]; rw [if_neg (by omega)]; exact hF o a b zz
      rw [f2 7 0 0 (by omega), m0]
      have := loop (P 3 j - i).toNat 0 M2 (fun _ => -1) (by omega) (by omega) ⟨Inj.none, fun v v0 v1 => ?_, fun w hw' => ?_⟩ f2 rfl (fun y y0 y1 => by omega)
      · rw [Int.add_zero] at this; exact this
      · rw [e2]; simp only [sl_wr]; rw [if_neg (by omega)]; exact hv v v0 (by omega)
      · rw [e2, sl_wr_s, bt_0]
        constructor
        · intro q; cases q
        · rintro ⟨v, v0, v1, v2⟩
          have v2 : (-1 : Int) = w := v2
          omega
    | succ n ih =>
      intro x N hx x0 hF hv
      refine vX8_matches_3 hc rfl fun _ _ _ => ⟨fun z => by omega, fun _ => ⟨by omega, fun M4 e4' => ⟨by omega, ih (x + 1) M4 (by omega) (by omega) (fun o a b zz => by rw [e4']; simp only [sl_wr]; rw [if_neg (by omega)]; exact hF o a b zz) (fun v v0 v1 => ?_)⟩⟩⟩
      by_cases ev : v = x
      · rw [ev, e4', sl_wr_s]
      · rw [e4']; simp only [sl_wr]; rw [if_neg (by omega)]; exact hv v v0 (by omega)
  exact eX8_matches (vX8_matches_0 hc rfl fun _ _ => init 8 0 M (by omega) (by omega) FT.rf (fun v v0 v1 => by omega))
theorem kX8_packed {to : Int → Int} (hT : Tw M to) (hQ : ∀ N, (∀ o i j, ¬ (o = 8 ∧ i = 0 ∧ j = 6) → N o i j = M o i j) → (∀ v : Nat, v < 8 → (bt (N 8 0 6) v = true ↔ to v ≠ -1)) → Q (some (vI (pkn to))) N) : sl_Runs l mX8_packed [vR 8 0] M Q := by
  have loop : ∀ (n : Nat) (v a : Int) (N : sl_M), v + n = 8 → 0 ≤ v → (∀ o i j, ¬ (o = 8 ∧ i = 0 ∧ j = 6) → N o i j = M o i j) → (∀ u : Nat, u < 8 → (bt (N 8 0 6) u = true ↔ (to u ≠ -1 ∧ (u : Int) < v))) → pn to n v a = pkn to → sl_At l mX8_packed 9 [(0, vR 8 0), (1, vI a), (2, vI v)] [] N Q := by
    intro n
    induction n with
    | zero =>
      intro v a N hv v0 hF hb he
      rw [pn] at he
      refine vX8_packed_9 fun _ _ _ => ⟨fun _ => ?_, fun z => by omega⟩
      rw [he]
      refine hQ N hF (fun u hu => ?_)
      rw [hb u hu]
      exact ⟨fun z => z.1, fun z => ⟨z, by omega⟩⟩
    | succ n ih =>
      intro v a N hv v0 hF hb he
      have tv : N 8 2 v = to v := by rw [hF 8 2 v (by omega)]; exact hT.2.1 v v0 (by omega)
      rw [pn] at he
      refine vX8_packed_9 fun _ _ _ => ⟨fun z => by omega, fun _ => ?_⟩
      rw [tv]
      refine ⟨by omega, fun z => ⟨by omega, ?_⟩, fun z y ey M6 e6 => ⟨by omega, ?_⟩⟩
      · rw [if_pos z] at he
        refine ih (v + 1) a N (by omega) (by omega) hF (fun u hu => ?_) he
        rw [hb u hu]
        constructor
        · exact fun q => ⟨q.1, by omega⟩
        · rintro ⟨q1, q2⟩
          refine ⟨q1, ?_⟩
          have : (u : Int) ≠ v := fun w => q1 (by rw [w]; exact z)
          omega
      · rw [if_neg z] at he
        rw [ey]
        refine ih (v + 1) _ M6 (by omega) (by omega) (fun o i j zz => by rw [e6]; simp only [sl_wr]; rw [if_neg (by omega)]; exact hF o i j zz) (fun u hu => ?_) he
        rw [e6, sl_wr_s, bt_ior, Bool.or_eq_true, hb u hu, bt_shl (by omega), decide_eq_true_iff]
        constructor
        · rintro (q | q)
          · exact ⟨q.1, by omega⟩
          · exact ⟨by rw [q]; exact z, by omega⟩
        · rintro ⟨q1, q2⟩
          by_cases e : (u : Int) = v
          · exact Or.inr e
          · exact Or.inl ⟨q1, by omega⟩
  refine eX8_packed (vX8_packed_0 fun _ M1 e1 => loop 8 0 0 M1 (by omega) (by omega) (fun o i j zz => by rw [e1]; simp only [sl_wr]; rw [if_neg (by omega)]) (fun u hu => ?_) rfl)
  rw [e1, sl_wr_s, bt_0]
  constructor
  · intro q; cases q
  · intro q; omega
theorem kX8_inBlock (hc : sl_cls c = 0) (hw : WF P) (h2 : WF2 P) (hC : Cd M c P) {i j : Int} (hs : isp P i j) (m0 : M 7 0 0 = i) (m1 : M 7 0 1 = j) (hQ : Q (some (vI (1 + (cnB P j 40 i : Int)))) M) : sl_Runs l mX8_inBlock [vR c 0, vR 7 0] M Q := by
  have n0 := hw.n0
  have loop : ∀ (n : Nat) (y k x : Int), x + n = 40 → 0 ≤ x → 0 ≤ y → y ≤ 1 + x → isp P k j → j - k < n + 1 → y + (cnB P j n k : Int) = 1 + (cnB P j 40 i : Int) → sl_At l mX8_inBlock 10 [(0, vR c 0), (1, vR 7 0), (2, vI y), (3, vI k), (4, vI x)] [] M Q := by
    intro n
    induction n with
    | zero =>
      intro y k x hx x0 y0 yx hk hj he
      have e : y = 1 + (cnB P j 40 i : Int) := by rw [← he]; show y = y + ((0 : Nat) : Int); omega
      exact vX8_inBlock_10 hc rfl fun _ _ _ _ => ⟨fun _ => by rw [e]; exact hQ, fun z => by omega⟩
    | succ n ih =>
      intro y k x hx x0 y0 yx hk hj he
      have k0 := hk.1
      refine vX8_inBlock_10 hc rfl fun _ _ _ _ => ⟨fun z => by omega, fun _ => ⟨fun z => by omega, fun _ => ?_⟩⟩
      rw [m1]
      rw [cnB] at he
      refine ⟨fun z => ?_, fun z => ?_⟩
      · rw [if_neg (by omega)] at he
        have e : y = 1 + (cnB P j 40 i : Int) := by rw [← he]; show y = y + ((0 : Nat) : Int); omega
        rw [e]; exact hQ
      · rw [if_pos (by omega)] at he
        obtain ⟨f1, f2, f3⟩ := isp_next hw h2 hk (by omega)
        refine kX0_following hc hw hC ⟨k0, by have := hk.2.1; have := hk.2.2.1; omega⟩ ⟨_, rfl, by omega, by omega, ?_⟩
        rw [f1]
        exact ih (y + 1) (P 3 k) (x + 1) (by omega) (by omega) (by omega) (by omega) f2 (by omega) (by omega)
  refine eX8_inBlock (vX8_inBlock_0 hc rfl fun _ => ?_)
  rw [m0]
  exact loop 40 1 i 0 (by omega) (by omega) (by omega) (by omega) hs (by have := hs.1; have := hs.2.2.1; omega) (by omega)
theorem fol_rng (hw : WF P) {k : Int} (hk : 0 ≤ k ∧ k < P 0 0) : fol P k = -1 ∨ (0 ≤ fol P k ∧ fol P k < P 0 0) := by
  have := hw.af hk.1 hk.2
  unfold fol
  split
  · right; omega
  · left; rfl
theorem kX8_lastOf (hc : sl_cls c = 0) (hw : WF P) (hC : Cd M c P) {f : Int} {n : Nat} (hf : 0 ≤ f ∧ f < P 0 0) (hn : n ≤ 1000) (hQ : Q (some (vI (lst P n f))) M) : sl_Runs l mX8_lastOf [vR c 0, vI f, vI (1 + (n : Int))] M Q := by
  have n0 := hw.n0
  have loop : ∀ (m : Nat) (k x : Int), x + m = 1 + (n : Int) → 1 ≤ x → (k = -1 ∨ (0 ≤ k ∧ k < P 0 0)) → lst P m k = lst P n f → sl_At l mX8_lastOf 5 [(0, vR c 0), (2, vI (1 + (n : Int))), (3, vI k), (4, vI x)] [] M Q := by
    intro m
    induction m with
    | zero =>
      intro k x hx x0 hk he
      rw [lst] at he
      exact vX8_lastOf_5 hc fun _ _ _ _ => ⟨fun _ => by rw [he]; exact hQ, fun z => by omega⟩
    | succ m ih =>
      intro k x hx x0 hk he
      rw [lst] at he
      refine vX8_lastOf_5 hc fun _ _ _ _ => ⟨fun z => by omega, fun _ => ⟨fun z => ?_, fun z => ?_⟩⟩
      · rw [if_pos z] at he; rw [z, he]; exact hQ
      · rw [if_neg z] at he
        refine kX0_following hc hw hC (by omega) ⟨_, rfl, by omega, ?_⟩
        exact ih _ (x + 1) (by omega) (by omega) (fol_rng hw (by omega)) he
  exact eX8_lastOf (vX8_lastOf_0 hc fun _ _ _ => loop n f 1 (by omega) (by omega) (Or.inr hf) rfl)
theorem kX8_agrees {r : Int} (hQ : Q (some (vI (if M 9 0 6 = 0 ∧ M 9 0 3 = M 7 0 3 ∧ M 9 0 4 = rset r (M 7 0 4) ∧ M 9 0 5 = rset r (M 7 0 5) then 1 else 0))) M) : sl_Runs l mX8_agrees [vR 8 0, vR 7 0, vI r] M Q := by
  refine eX8_agrees (vX8_agrees_0 rfl fun _ _ => ⟨fun z => ?_, fun z => ⟨fun z2 => ?_, fun z2 => kX9_renamedSet ⟨_, rfl, fun z3 => ?_, fun z3 => kX9_renamedSet ⟨_, rfl, ?_⟩⟩⟩⟩)
  · rw [if_neg (by omega)] at hQ; exact hQ
  · rw [if_neg (by omega)] at hQ; exact hQ
  · rw [if_neg (by omega)] at hQ; exact hQ
  · show Q (some (vI (if ¬ (M 9 0 5 ≠ rset r (M 7 0 5)) then 1 else 0))) M
    rw [b_congr (R := M 9 0 6 = 0 ∧ M 9 0 3 = M 7 0 3 ∧ M 9 0 4 = rset r (M 7 0 4) ∧ M 9 0 5 = rset r (M 7 0 5)) (by omega)]
    exact hQ
theorem kX8_take (h5 : 0 ≤ M 8 0 5 ∧ M 8 0 5 < 40) {k r : Int} (hQ : ∀ N, (∀ o i j, ¬ (o = 8 ∧ ((i = 4 ∧ j = M 8 0 5) ∨ (i = 5 ∧ j = M 8 0 5) ∨ (i = 0 ∧ j = 5))) → N o i j = M o i j) → N 8 4 (M 8 0 5) = k → N 8 5 (M 8 0 5) = r → N 8 0 5 = M 8 0 5 + 1 → Q none N) : sl_Runs l mX8_take [vR 8 0, vI k, vI r] M Q := by
  refine eX8_take (vX8_take_0 fun _ _ _ => ⟨fun _ => ⟨h5, fun M3 e3 => ?_⟩, fun z => by omega⟩)
  have a : M3 8 0 5 = M 8 0 5 := by rw [e3]; simp only [sl_wr]; rw [if_neg (by omega)]
  rw [a]
  refine ⟨h5, fun M5 e5 => ?_⟩
  have b : M5 8 0 5 = M 8 0 5 := by rw [e5]; simp only [sl_wr]; rw [if_neg (by omega)]; exact a
  rw [b]
  refine ⟨by omega, fun M7 e7 => hQ M7 (fun o i j z => ?_) ?_ ?_ ?_⟩
  · rw [e7, e5, e3]; simp only [sl_wr]; rw [if_neg (by omega), if_neg (by omega), if_neg (by omega)]
  · rw [e7, e5, e3]; simp [sl_wr]
  · rw [e7, e5]; simp [sl_wr]
  · rw [e7, sl_wr_s]
end K
