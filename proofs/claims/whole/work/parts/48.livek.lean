/-! Flow: liveness; the whole program is studied -/
noncomputable def bi (p : Prop) : Int := @ite Int p (Classical.propDecidable p) 1 0
theorem bi1 {p : Prop} (h : p) : bi p = 1 := by unfold bi; rw [if_pos h]
theorem bi0 {p : Prop} (h : ¬ p) : bi p = 0 := by unfold bi; rw [if_neg h]
theorem bi_01 (p : Prop) : bi p = 0 ∨ bi p = 1 := by
  by_cases h : p
  · exact Or.inr (bi1 h)
  · exact Or.inl (bi0 h)
theorem bi_iff {p : Prop} : bi p = 1 ↔ p := by
  by_cases h : p
  · rw [bi1 h]; simp [h]
  · rw [bi0 h]; simp [h]
theorem bi_congr {p q : Prop} (h : p ↔ q) : bi p = bi q := by
  by_cases hp : p
  · rw [bi1 hp, bi1 (h.mp hp)]
  · rw [bi0 hp, bi0 (fun z => hp (h.mpr z))]
/-- the set of those with a property -/
noncomputable def msk (p : Nat → Prop) : Int := bi (p 0) + 2 * bi (p 1) + 4 * bi (p 2) + 8 * bi (p 3) + 16 * bi (p 4) + 32 * bi (p 5) + 64 * bi (p 6) + 128 * bi (p 7)
theorem m8_msk (p : Nat → Prop) : m8 (msk p) := by
  unfold msk m8
  have := bi_01 (p 0); have := bi_01 (p 1); have := bi_01 (p 2); have := bi_01 (p 3)
  have := bi_01 (p 4); have := bi_01 (p 5); have := bi_01 (p 6); have := bi_01 (p 7)
  omega
theorem bt_div : ∀ n : Nat, n < 256 → (bt (n : Int) 0 = true ↔ n % 2 = 1) ∧ (bt (n : Int) 1 = true ↔ n / 2 % 2 = 1) ∧ (bt (n : Int) 2 = true ↔ n / 4 % 2 = 1) ∧ (bt (n : Int) 3 = true ↔ n / 8 % 2 = 1) ∧ (bt (n : Int) 4 = true ↔ n / 16 % 2 = 1) ∧ (bt (n : Int) 5 = true ↔ n / 32 % 2 = 1) ∧ (bt (n : Int) 6 = true ↔ n / 64 % 2 = 1) ∧ (bt (n : Int) 7 = true ↔ n / 128 % 2 = 1) := by decide +kernel
theorem bi_bd (p : Prop) : 0 ≤ bi p ∧ bi p ≤ 1 := by have := bi_01 p; omega
theorem bt_msk {p : Nat → Prop} {v : Nat} (hv : v < 8) : bt (msk p) v = true ↔ p v := by
  have hm := m8_msk p
  have hd := bt_div (msk p).toNat (by unfold m8 at hm; omega)
  rw [show (((msk p).toNat : Nat) : Int) = msk p by unfold m8 at hm; omega] at hd
  have h0 := bi_bd (p 0); have h1 := bi_bd (p 1); have h2 := bi_bd (p 2); have h3 := bi_bd (p 3)
  have h4 := bi_bd (p 4); have h5 := bi_bd (p 5); have h6 := bi_bd (p 6); have h7 := bi_bd (p 7)
  have e : msk p = bi (p 0) + 2 * bi (p 1) + 4 * bi (p 2) + 8 * bi (p 3) + 16 * bi (p 4) + 32 * bi (p 5) + 64 * bi (p 6) + 128 * bi (p 7) := rfl
  obtain ⟨d0, d1, d2, d3, d4, d5, d6, d7⟩ := hd
  have hn : ((msk p).toNat : Int) = msk p := by unfold m8 at hm; omega
  generalize (msk p).toNat = n at *
  rw [e] at hn
  rcases (show v = 0 ∨ v = 1 ∨ v = 2 ∨ v = 3 ∨ v = 4 ∨ v = 5 ∨ v = 6 ∨ v = 7 by omega) with rfl | rfl | rfl | rfl | rfl | rfl | rfl | rfl
  · exact d0.trans (Iff.trans (show n % 2 = 1 ↔ bi (p 0) = 1 by clear d0 d1 d2 d3 d4 d5 d6 d7 hm e; omega) bi_iff)
  · exact d1.trans (Iff.trans (show n / 2 % 2 = 1 ↔ bi (p 1) = 1 by clear d0 d1 d2 d3 d4 d5 d6 d7 hm e; omega) bi_iff)
  · exact d2.trans (Iff.trans (show n / 4 % 2 = 1 ↔ bi (p 2) = 1 by clear d0 d1 d2 d3 d4 d5 d6 d7 hm e; omega) bi_iff)
  · exact d3.trans (Iff.trans (show n / 8 % 2 = 1 ↔ bi (p 3) = 1 by clear d0 d1 d2 d3 d4 d5 d6 d7 hm e; omega) bi_iff)
  · exact d4.trans (Iff.trans (show n / 16 % 2 = 1 ↔ bi (p 4) = 1 by clear d0 d1 d2 d3 d4 d5 d6 d7 hm e; omega) bi_iff)
  · exact d5.trans (Iff.trans (show n / 32 % 2 = 1 ↔ bi (p 5) = 1 by clear d0 d1 d2 d3 d4 d5 d6 d7 hm e; omega) bi_iff)
  · exact d6.trans (Iff.trans (show n / 64 % 2 = 1 ↔ bi (p 6) = 1 by clear d0 d1 d2 d3 d4 d5 d6 d7 hm e; omega) bi_iff)
  · exact d7.trans (Iff.trans (show n / 128 % 2 = 1 ↔ bi (p 7) = 1 by clear d0 d1 d2 d3 d4 d5 d6 d7 hm e; omega) bi_iff)
theorem msk_eq {p : Nat → Prop} {m : Int} (hm : m8 m) (h : ∀ v, v < 8 → (bt m v = true ↔ p v)) : m = msk p := m8_ext hm (m8_msk p) (fun v hv => bt_iffT ((h v hv).trans (bt_msk hv).symm))
section K
variable {l : Launch} {M : sl_M} {Q : sl_R} {s : Nat} {P : Pg} {a : Nat}
theorem kX1_liveAt (hw : WF P) (hF : StF M s P) (hs : M 6 0 0 = (s : Int) + 1) (ha : sl_ar 1 a = some (0, 40)) {f t k : Int} (hr : Rg P f t) (hk : f ≤ k ∧ k ≤ t) (hL : ∀ x, f ≤ x → x ≤ t → m8 (M 6 a x)) (hQ : ∀ r, LA P f t (M 6 a) k r → Q (some (vI r)) M) : sl_Runs l mX1_liveAt [vR 6 0, vI k, vI f, vI t, vR 6 a] M Q := by
  have hn := hw.n0
  have hr' := hr
  obtain ⟨r1, r2, r3, r4⟩ := hr
  obtain ⟨⟨u1, u2⟩, -⟩ := hF.2.2.2 k (by omega) (by omega)
  have e1 := (hF.2.1.2 k (by omega) (by omega)).1
  have hp := cl_prog hF.1
  have inn : ∀ x S, Ed P f t k x S → ¬ x < 0 → 0 ≤ x ∧ f ≤ x ∧ x ≤ t := fun x S he hx => ⟨by omega, (fw_ed hw hr' hk he (by omega)).1⟩
  have J : P 1 k = 5 ∨ P 1 k = 6 → sl_At l mX1_liveAt 41 [(1, vI k), (2, vI f), (3, vI t), (4, vR 6 a), (5, vR (s + 10) 0), (6, vI (P 10 k))] [] M Q := by
    intro hkd
    have E0 : Ed P f t k (en P f t k 0) 0 := Or.inl ⟨hkd, rfl, Or.inl rfl⟩
    have E1 : Ed P f t k (en P f t k 1) 0 := Or.inl ⟨hkd, rfl, Or.inr rfl⟩
    refine vX1_liveAt_41 ha hp fun _ _ _ _ _ => kX0_enter hp hw hF.2.1 (by omega) r1 r3 ⟨_, rfl, kX0_enter hp hw hF.2.1 (by omega) r1 r3 ⟨_, rfl, fun q => ?_, fun q => ?_, hQ _ ?_⟩⟩
    · have := inn _ _ E0 q; omega
    · have := inn _ _ E1 q; omega
    · have mm : ∀ x, Ed P f t k x 0 → m8 (if x < 0 then 0 else M 6 a x) := by
        intro x he
        split
        · exact m8_0
        · next q => have := inn x _ he q; exact hL x this.2.1 this.2.2
      refine ⟨m8_or (m8_or u2 (mm _ E0)) (mm _ E1), fun v hv => ?_⟩
      have one : ∀ x, Ed P f t k x 0 → (bt (if x < 0 then 0 else M 6 a x) v = true ↔ (0 ≤ x ∧ bt (M 6 a x) v = true)) := by
        intro x _
        split
        · next q => rw [bt_0]; constructor; · intro z; cases z
                    · rintro ⟨z, -⟩; omega
        · next q => exact ⟨fun z => ⟨by omega, z⟩, fun z => z.2⟩
      rw [bt_ior, bt_ior, Bool.or_eq_true, Bool.or_eq_true, one _ E0, one _ E1]
      constructor
      · rintro ((q | q) | q)
        · exact Or.inl q
        · exact Or.inr ⟨_, _, E0, q.1, bt_0 v, q.2⟩
        · exact Or.inr ⟨_, _, E1, q.1, bt_0 v, q.2⟩
      · rintro (q | ⟨x, S, q1, q2, q3, q4⟩)
        · exact Or.inl (Or.inl q)
        · rcases q1 with ⟨-, -, z | z⟩ | ⟨z1, z2, -⟩
          · rw [z] at q2 q4; exact Or.inl (Or.inr ⟨q2, q4⟩)
          · rw [z] at q2 q4; exact Or.inr ⟨q2, q4⟩
          · rcases hkd with q | q
            · exact absurd q z1
            · exact absurd q z2
  have loop : P 1 k ≠ 5 → P 1 k ≠ 6 → ∀ (n : Nat) (e r : Int), (e = 1 ∧ n = 4 ∨ e = 2 ∧ n = 3 ∨ e = 4 ∧ n = 2 ∨ e = 8 ∧ n = 1 ∨ e = 16 ∧ n = 0) → m8 r → (∀ v, v < 8 → (bt r v = true ↔ (bt (P 10 k) v = true ∨ ∃ q, q < e ∧ (q = 1 ∨ q = 2 ∨ q = 4 ∨ q = 8) ∧ iand (P 20 k) q ≠ 0 ∧ 0 ≤ tg P f t k q ∧ bt (P 21 (16 * k + q)) v = false ∧ bt (M 6 a (tg P f t k q)) v = true))) → sl_At l mX1_liveAt 109 [(0, vR 6 0), (1, vI k), (2, vI f), (3, vI t), (4, vR 6 a), (5, vR (s + 10) 0), (6, vI r), (7, vI (P 20 k)), (8, vI e)] [] M Q := by
    intro n5 n6 n
    induction n with
    | zero =>
      intro e r he hm hb
      refine vX1_liveAt_109 ha hp fun _ _ _ _ _ _ _ => ⟨fun _ => hQ r ⟨hm, fun v hv => ?_⟩, fun q => by omega⟩
      rw [hb v hv]
      constructor
      · rintro (q | ⟨q, q1, q2, q3, q4, q5, q6⟩)
        · exact Or.inl q
        · exact Or.inr ⟨_, _, Or.inr ⟨n5, n6, q, q2, q3, rfl, rfl⟩, q4, q5, q6⟩
      · rintro (q | ⟨x, S, q1, q2, q3, q4⟩)
        · exact Or.inl q
        · rcases q1 with ⟨z, -⟩ | ⟨-, -, w, w1, w2, rfl, rfl⟩
          · rcases z with z | z
            · exact absurd z n5
            · exact absurd z n6
          · exact Or.inr ⟨w, by omega, w1, w2, q2, q3, q4⟩
    | succ n ih =>
      intro e r he hm hb
      have he' : e = 1 ∨ e = 2 ∨ e = 4 ∨ e = 8 := by omega
      refine vX1_liveAt_109 ha hp fun _ _ _ _ _ _ _ => ⟨fun q => by omega, fun _ => ⟨fun q => ⟨by omega, fun y ey => ?_⟩, fun q => ?_⟩⟩
      · refine ih y r (by omega) hm (fun v hv => ?_)
        rw [hb v hv]
        constructor
        · rintro (z | ⟨w, w1, w2⟩)
          · exact Or.inl z
          · exact Or.inr ⟨w, by omega, w2⟩
        · rintro (z | ⟨w, w1, w2, w3, w4⟩)
          · exact Or.inl z
          · refine Or.inr ⟨w, ?_, w2, w3, w4⟩
            by_cases c : w = e
            · subst c; exact absurd q w3
            · omega
      · have E0 : Ed P f t k (tg P f t k e) (P 21 (16 * k + e)) := Or.inr ⟨n5, n6, e, he', q, rfl, rfl⟩
        refine kX0_target hp hw hF.2.1 (by omega) he' r1 r3 ⟨_, rfl, fun z => ?_, s, ⟨hs, hF.1⟩, kX7_setBy hw hF (by omega) he' ⟨_, rfl, fun y ey => ⟨by omega, fun y2 ey2 => ?_⟩⟩⟩
        · have := inn _ _ E0 z; omega
        · have mi : m8 (if tg P f t k e < 0 then 0 else M 6 a (tg P f t k e)) := by
            split
            · exact m8_0
            · next z => have := inn _ _ E0 z; exact hL _ this.2.1 this.2.2
          refine ih y2 y (by omega) (by rw [ey]; exact m8_or hm (m8_and mi)) (fun v hv => ?_)
          rw [ey, bt_ior, bt_iand, bt_not _ (by omega), Bool.or_eq_true, hb v hv, Bool.and_eq_true, Bool.not_eq_true']
          constructor
          · rintro ((z | ⟨w, w1, w2⟩) | ⟨z1, z2⟩)
            · exact Or.inl z
            · exact Or.inr ⟨w, by omega, w2⟩
            · by_cases c : tg P f t k e < 0
              · rw [if_pos c, bt_0] at z1; cases z1
              · rw [if_neg c] at z1
                exact Or.inr ⟨e, by omega, he', q, by omega, z2, z1⟩
          · rintro (z | ⟨w, w1, w2, w3, w4, w5, w6⟩)
            · exact Or.inl (Or.inl z)
            · by_cases c : w = e
              · subst c
                refine Or.inr ⟨?_, w5⟩
                rw [if_neg (by omega)]; exact w6
              · exact Or.inl (Or.inr ⟨w, by omega, w2, w3, w4, w5, w6⟩)
  refine eX1_liveAt (vX1_liveAt_0 ha fun _ _ _ _ => ⟨s, ⟨hs, hF.1⟩, by omega, ?_⟩)
  rw [e1, u1]
  refine ⟨fun q => J (Or.inl q), fun q => ⟨fun q2 => kX7_exitsOf hw hF (by omega) ⟨_, rfl, loop q q2 4 1 (P 10 k) (by omega) u2 (fun v hv => ⟨Or.inl, ?_⟩)⟩, fun q2 => J (Or.inr (by omega))⟩⟩
  rintro (z | ⟨w, w1, w2, -⟩)
  · exact z
  · omega
/-- only row a of the flow has changed -/
def Fa (M N : sl_M) (a : Nat) : Prop := ∀ o i j, ¬ (o = 6 ∧ i = a) → N o i j = M o i j
theorem Fa.rf {M : sl_M} {a : Nat} : Fa M M a := fun _ _ _ _ => rfl
theorem Fa.tr {M N O : sl_M} {a : Nat} (h1 : Fa M N a) (h2 : Fa N O a) : Fa M O a := fun o i j q => (h2 o i j q).trans (h1 o i j q)
theorem Fa.fo {M N : sl_M} {a : Nat} (h : Fa M N a) : Fo M N a := fun o i j q => h o i j (fun z => q ⟨z.1, Or.inl z.2⟩)
theorem Fa.wr {M : sl_M} {a : Nat} {x v : Int} : Fa M (sl_wr M 6 a x v) a := fun o i j q => sl_wr_o o i j (fun z => q (by cases z; exact ⟨rfl, rfl⟩))
theorem wr_row {M : sl_M} {o i : Nat} {x v : Int} : (sl_wr M o i x v) o i = up (M o i) x v := by
  funext j
  unfold sl_wr up
  by_cases c : j = x
  · rw [if_pos ⟨rfl, rfl, c⟩, if_pos c]
  · rw [if_neg (fun z => c z.2.2), if_neg c]
theorem ior01 {a b : Int} (ha : a = 0 ∨ a = 1) (hb : b = 0 ∨ b = 1) : ior a b = if a = 1 ∨ b = 1 then 1 else 0 := by
  rcases ha with rfl | rfl <;> rcases hb with rfl | rfl <;> decide +kernel
/-- somewhere they differ -/
def Df (L L' : Int → Int) (f t : Int) : Prop := ∃ k, f ≤ k ∧ k ≤ t ∧ L k ≠ L' k
theorem kX1_findLive (hw : WF P) (hF : StF M s P) (hs : M 6 0 0 = (s : Int) + 1) (ha : sl_ar 1 a = some (0, 40)) {f t : Int} (hr : Rg P f t) (hQ : ∀ N, LvS P f t (N 6 a) → Fa M N a → Q none N) : sl_Runs l mX1_findLive [vR 6 0, vI f, vI t, vR 6 a] M Q := by
  have hn := hw.n0
  have hr' := hr
  obtain ⟨r1, r2, r3, r4⟩ := hr
  have na0 : a ≠ 0 := by rintro rfl; cases ha
  -- the passes
  have outer : ∀ (n : Nat) (x c : Int) (N : sl_M), x = 321 - (n : Int) → n ≤ 321 → (c = 0 ∨ c = 1) → Fa M N a → LI P f t (N 6 a) → (c = 0 → ∀ k, f ≤ k → k ≤ t → LA P f t (N 6 a) k (N 6 a k)) → (c = 1 → x.toNat ≤ cnt (N 6 a) f (t - f + 1).toNat) → sl_At l mX1_findLive 26 [(0, vR 6 0), (1, vI f), (2, vI t), (3, vR 6 a), (4, vI c), (5, vI x)] [] N Q := by
    intro n
    induction n with
    | zero =>
      intro x c N hx hn1 hc hfa hI hcl hct
      have hb := cnt_le (N 6 a) f (t - f + 1).toNat
      have c0 : c = 0 := by
        rcases hc with q | q
        · exact q
        · have := hct q; omega
      exact vX1_findLive_26 ha fun _ _ _ _ _ => ⟨fun _ => hQ N (hI.done hw hr' (hcl c0)) hfa, fun q => by omega⟩
    | succ n ih =>
      intro x c N hx hn1 hc hfa hI hcl hct
      refine vX1_findLive_26 ha fun _ _ _ _ _ => ⟨fun q => by omega, fun _ => ⟨fun q => hQ N (hI.done hw hr' (hcl q)) hfa, fun q => ?_⟩⟩
      have hct := hct (by omega)
      -- one pass
      have g : ∀ y : Int, f ≤ y → y ≤ t → f ≤ (if irem x 2 ≠ 0 then y else t - (y - f)) ∧ (if irem x 2 ≠ 0 then y else t - (y - f)) ≤ t := by
        intro y y1 y2
        split <;> omega
      have inner : ∀ (m : Nat) (y d : Int) (N' : sl_M), (t + 1 - y).toNat ≤ m → f ≤ y → y ≤ t + 1 → (d = 0 ∨ d = 1) → Fa M N' a → LI P f t (N' 6 a) → (∀ k v, v < 8 → f ≤ k → k ≤ t → bt (N 6 a k) v = true → bt (N' 6 a k) v = true) → (d = 0 → (∀ k, f ≤ k → k ≤ t → N' 6 a k = N 6 a k) ∧ ∀ z, f ≤ z → z < y → LA P f t (N' 6 a) (if irem x 2 ≠ 0 then z else t - (z - f)) (N' 6 a (if irem x 2 ≠ 0 then z else t - (z - f)))) → (d = 1 → Df (N 6 a) (N' 6 a) f t) → sl_At l mX1_findLive 45 [(0, vR 6 0), (1, vI f), (2, vI t), (3, vR 6 a), (4, vI d), (5, vI x), (6, vI y)] [] N' Q := by
        intro m
        induction m with
        | zero =>
          intro y d N' h1 h2 h3 hd hfa' hI' hmono h0 h1'
          refine vX1_findLive_45 ha fun _ _ _ _ _ _ => ⟨fun _ => ⟨by omega, ih (x + 1) d N' (by omega) (by omega) hd hfa' hI' (fun z k k1 k2 => ?_) (fun z => ?_)⟩, fun q => by omega⟩
          · by_cases c2 : irem x 2 ≠ 0
            · have := (h0 z).2 k k1 (by omega)
              rw [if_pos c2] at this; exact this
            · have := (h0 z).2 (t - (k - f)) (by omega) (by omega)
              rw [if_neg c2, show t - (t - (k - f) - f) = k by omega] at this; exact this
          · have := cnt_grow r2 (fun k k1 k2 => (hI k k1 k2).1) (fun k k1 k2 => (hI' k k1 k2).1) hmono (h1' z)
            omega
        | succ m ihm =>
          intro y d N' h1 h2 h3 hd hfa' hI' hmono h0 h1'
          refine vX1_findLive_45 ha fun _ _ _ _ _ _ => ⟨fun q => ⟨by omega, ih (x + 1) d N' (by omega) (by omega) hd hfa' hI' (fun z k k1 k2 => ?_) (fun z => ?_)⟩, fun q => ?_⟩
          · by_cases c2 : irem x 2 ≠ 0
            · have := (h0 z).2 k k1 (by omega)
              rw [if_pos c2] at this; exact this
            · have := (h0 z).2 (t - (k - f)) (by omega) (by omega)
              rw [if_neg c2, show t - (t - (k - f) - f) = k by omega] at this; exact this
          · have := cnt_grow r2 (fun k k1 k2 => (hI k k1 k2).1) (fun k k1 k2 => (hI' k k1 k2).1) hmono (h1' z)
            omega
          · have gy := g y h2 (by omega)
            refine ⟨by omega, fun u eu => ?_⟩
            rw [← eu] at gy
            refine kX1_liveAt hw (hfa'.fo.st hw hF) (by rw [hfa' 6 0 0 (fun z => by omega)]; exact hs) ha hr' gy (fun z z1 z2 => (hI' z z1 z2).1) (fun r hA => ⟨_, rfl, by omega, fun w ew N2 eN2 => ⟨by omega, ?_⟩⟩)
            obtain ⟨i1, i2⟩ := hI'.step hw hr' gy hA
            have eR : N2 6 a = up (N' 6 a) u r := by rw [eN2]; exact wr_row
            rw [← eR] at i1 i2
            have hw01 : (if ¬ (r = N' 6 a u) then (1 : Int) else 0) = 0 ∨ (if ¬ (r = N' 6 a u) then (1 : Int) else 0) = 1 := b_01
            rw [ior01 hd hw01] at ew
            refine ihm (y + 1) w N2 (by omega) (by omega) (by omega) (by rw [ew]; exact b_01.symm.symm) (hfa'.tr (by rw [eN2]; exact Fa.wr)) i1 (fun k v hv k1 k2 z => i2 k v hv k1 k2 (hmono k v hv k1 k2 z)) (fun z => ?_) (fun z => ?_)
            · have nz : ¬ (d = 1 ∨ (if ¬ (r = N' 6 a u) then (1 : Int) else 0) = 1) := by
                intro q2; rw [if_pos q2] at ew; omega
              have d0 : d = 0 := by
                rcases hd with q2 | q2
                · exact q2
                · exact absurd (Or.inl q2) nz
              have rr : r = N' 6 a u := Decidable.byContradiction fun q2 => nz (Or.inr (by rw [if_pos q2]))
              have same : ∀ k, N2 6 a k = N' 6 a k := by
                intro k
                rw [eR]
                by_cases c2 : k = u
                · subst c2; rw [up_s]; exact rr
                · exact up_o c2
              have sf : N2 6 a = N' 6 a := funext same
              obtain ⟨z1, z2⟩ := h0 d0
              refine ⟨fun k k1 k2 => by rw [same]; exact z1 k k1 k2, fun z3 z4 z5 => ?_⟩
              rw [sf]
              by_cases c2 : z3 = y
              · subst c2
                rw [← eu, ← rr]; exact hA
              · exact z2 z3 z4 (by omega)
            · by_cases d1 : d = 1
              · obtain ⟨k, k1, k2, k3⟩ := h1' d1
                refine ⟨k, k1, k2, fun q2 => k3 ?_⟩
                refine m8_ext (hI k k1 k2).1 (hI' k k1 k2).1 (fun v hv => bt_iffT ⟨hmono k v hv k1 k2, fun q3 => ?_⟩)
                rw [q2]; exact i2 k v hv k1 k2 q3
              · have d0 : d = 0 := by omega
                have rr : ¬ (r = N' 6 a u) := by
                  intro q2
                  rw [if_neg (by rw [if_neg (fun z => z q2)]; omega)] at ew
                  omega
                refine ⟨u, gy.1, gy.2, fun q2 => rr ?_⟩
                have e2 : N2 6 a u = r := by rw [eR, up_s]
                rw [← e2, ← q2, (h0 d0).1 u gy.1 gy.2]
      exact inner (t + 1 - f).toNat f 0 N (Nat.le_refl _) (Int.le_refl _) (by omega) (Or.inl rfl) hfa hI (fun _ _ _ _ _ z => z) (fun _ => ⟨fun _ _ _ => rfl, fun z z1 z2 => by omega⟩) (fun z => by omega)
  have pre : ∀ (n : Nat) (k : Int) (N : sl_M), (t + 1 - k).toNat ≤ n → f ≤ k → k ≤ t + 1 → Fa M N a → (∀ j, f ≤ j → j < k → N 6 a j = 0) → sl_At l mX1_findLive 3 [(0, vR 6 0), (1, vI f), (2, vI t), (3, vR 6 a), (4, vI k)] [] N Q := by
    intro n
    induction n with
    | zero =>
      intro k N h1 h2 h3 hfa hB
      refine vX1_findLive_3 ha fun _ _ _ _ => ⟨fun _ => outer 321 0 1 N (by omega) (by omega) (Or.inr rfl) hfa (LI.zero (fun j j1 j2 => hB j j1 (by omega))) (fun q => by omega) (fun _ => Nat.zero_le _), fun q => by omega⟩
    | succ n ih =>
      intro k N h1 h2 h3 hfa hB
      refine vX1_findLive_3 ha fun _ _ _ _ => ⟨fun q => outer 321 0 1 N (by omega) (by omega) (Or.inr rfl) hfa (LI.zero (fun j j1 j2 => hB j j1 (by omega))) (fun q => by omega) (fun _ => Nat.zero_le _), fun q => ⟨by omega, fun N' eN => ⟨by omega, ?_⟩⟩⟩
      refine ih (k + 1) N' (by omega) (by omega) (by omega) (hfa.tr (by rw [eN]; exact Fa.wr)) (fun j j1 j2 => ?_)
      rw [eN, wr_row]
      by_cases c : j = k
      · subst c; exact up_s
      · rw [up_o c]; exact hB j j1 (by omega)
  exact eX1_findLive (vX1_findLive_0 ha fun _ _ _ => pre (t + 1 - f).toNat f M (Nat.le_refl _) (Int.le_refl _) (by omega) Fa.rf (fun j j1 j2 => by omega))
end K
