/-! The reference: live and sure, pass by pass -/
theorem way_ed {M : sl_M} {b : Int} {P : Pg} {k : Int} (h : WYk M b P k) : (∀ w, 0 ≤ w → w < M 1 25 (b + k) → ∃ x S, Ed P 0 (P 0 0 - 1) k x S ∧ M 1 26 (4 * (b + k) + w) = tN P x ∧ M 1 27 (4 * (b + k) + w) = S) ∧ (∀ x S, Ed P 0 (P 0 0 - 1) k x S → ∃ w, 0 ≤ w ∧ w < M 1 25 (b + k) ∧ M 1 26 (4 * (b + k) + w) = tN P x ∧ M 1 27 (4 * (b + k) + w) = S) ∧ (0 ≤ M 1 25 (b + k) ∧ M 1 25 (b + k) ≤ 4) := by
  obtain ⟨h1, h2⟩ := h
  by_cases c : P 1 k = 5 ∨ P 1 k = 6
  · obtain ⟨a, d⟩ := h1 c
    refine ⟨fun w w1 w2 => ?_, fun x S he => ?_, by omega⟩
    · have hs : w = 0 ∨ w = 1 := by omega
      obtain ⟨q1, q2, -⟩ := d w hs
      exact ⟨_, _, Or.inl ⟨c, rfl, by rcases hs with rfl | rfl; exact Or.inl rfl; exact Or.inr rfl⟩, q1, q2⟩
    · rcases he with ⟨-, e, q | q⟩ | ⟨q1, q2, -⟩
      · obtain ⟨z1, z2, -⟩ := d 0 (Or.inl rfl)
        exact ⟨0, by omega, by omega, by rw [q]; exact z1, by rw [e]; exact z2⟩
      · obtain ⟨z1, z2, -⟩ := d 1 (Or.inr rfl)
        exact ⟨1, by omega, by omega, by rw [q]; exact z1, by rw [e]; exact z2⟩
      · rcases c with c | c
        · exact absurd c q1
        · exact absurd c q2
  · have n5 : P 1 k ≠ 5 := fun z => c (Or.inl z)
    have n6 : P 1 k ≠ 6 := fun z => c (Or.inr z)
    obtain ⟨a, d, f⟩ := h2 n5 n6
    refine ⟨fun w w1 w2 => ?_, fun x S he => ?_, a⟩
    · obtain ⟨e, e1, e2, -, e3, e4', -⟩ := f w w1 w2
      exact ⟨_, _, Or.inr ⟨n5, n6, e, e1, e2, rfl, rfl⟩, e3, e4'⟩
    · rcases he with ⟨q, -⟩ | ⟨-, -, e, e1, e2, rfl, rfl⟩
      · exact absurd q c
      · obtain ⟨w, w1, w2, -, w3, w4, -⟩ := d e e1 e2
        exact ⟨w, w1, w2, w3, w4⟩
abbrev Lf (N : sl_M) (b : Int) : Int → Int := fun k => N 1 30 (b + k)
abbrev Sf (N : sl_M) (b : Int) : Int → Int := fun k => N 1 31 (b + k)
/-- what 'sure' must be -/
def SuS (P : Pg) (S : Int → Int) : Prop := ∀ k, 0 ≤ k → k < P 0 0 → m8 (S k) ∧ ∀ v, v < 8 → (bt (S k) v = false ↔ nS P k v)
def SI (P : Pg) (S : Int → Int) : Prop := (∀ k, 0 ≤ k → k ≤ P 0 0 → m8 (S k)) ∧ (∀ k, 0 ≤ k → k < P 0 0 → ∀ v, v < 8 → bt (S k) v = false → nS P k v) ∧ (0 < P 0 0 → ∀ v, v < 8 → bt 3 v = false → bt (S 0) v = false)
def SC (P : Pg) (S : Int → Int) (k : Int) : Prop := ∀ x E, Ed P 0 (P 0 0 - 1) k x E → 0 ≤ x → ∀ v, v < 8 → bt (S k) v = false → bt E v = false → bt (S x) v = false
theorem SI.step {P : Pg} (hw : WF P) {S : Int → Int} (h : SI P S) {k x E : Int} (hk : 0 ≤ k ∧ k < P 0 0) (he : Ed P 0 (P 0 0 - 1) k x E) (hE : m8 E) : SI P (up S (tN P x) (iand (S (tN P x)) (ior (S k) E))) := by
  obtain ⟨h1, h2, h3⟩ := h
  have mo : m8 (ior (S k) E) := m8_or (h1 k hk.1 (by omega)) hE
  refine ⟨fun y y1 y2 => ?_, fun y y1 y2 v hv q => ?_, fun hn v hv q => ?_⟩
  · by_cases c : y = tN P x
    · rw [c, up_s]; exact m8_and' mo
    · rw [up_o c]; exact h1 y y1 y2
  · by_cases c : y = tN P x
    · have hx : 0 ≤ x ∧ y = x := by
        unfold tN at c
        by_cases z : x < 0
        · rw [if_pos z] at c; omega
        · rw [if_neg z] at c; omega
      rw [← c, up_s, bt_iand, bt_ior] at q
      cases e : bt (S y) v
      · exact h2 y y1 y2 v hv e
      · rw [e, Bool.true_and, Bool.or_eq_false_iff] at q
        obtain ⟨q1, q2⟩ := h2 k hk.1 hk.2 v hv q.1
        rw [hx.2]
        exact ⟨q1, q2.step hk.1 (by omega) he hx.1 q.2⟩
    · rw [up_o c] at q; exact h2 y y1 y2 v hv q
  · by_cases c : (0 : Int) = tN P x
    · rw [← c, up_s, bt_iand, h3 hn v hv q, Bool.false_and]
    · rw [up_o c]; exact h3 hn v hv q
theorem SI.done {P : Pg} (hw : WF P) {S : Int → Int} (h : SI P S) (hc : ∀ k, 0 ≤ k → k < P 0 0 → SC P S k) : SuS P S := by
  intro k k0 k1
  refine ⟨h.1 k k0 (by omega), fun v hv => ⟨h.2.1 k k0 k1 v hv, ?_⟩⟩
  rintro ⟨q1, q2⟩
  have hr := hw.rgA (by omega)
  have := q2 (fun y => 0 ≤ y ∧ y < P 0 0 → bt (S y) v = false) (fun _ => h.2.2 (by omega) v hv q1) (fun a x E a1 a2 ih he hx hE _ => hc a a1 (by omega) x E he hx v hv (ih ⟨a1, by omega⟩) hE)
  exact this ⟨k0, k1⟩
/-- only live and sure of one program have changed -/
def FL (M N : sl_M) (b n : Int) : Prop := ∀ o i j, ¬ (o = 1 ∧ (i = 30 ∨ i = 31) ∧ b ≤ j ∧ j ≤ b + n) → N o i j = M o i j
theorem FL.rf {M : sl_M} {b n : Int} : FL M M b n := fun _ _ _ _ => rfl
theorem FL.tr {M N O : sl_M} {b n : Int} (h1 : FL M N b n) (h2 : FL N O b n) : FL M O b n := fun o i j z => (h2 o i j z).trans (h1 o i j z)
theorem FL.ld {M N : sl_M} {b n c : Int} {P : Pg} (h : FL M N b n) (hL : Ld M c P) : Ld N c P := by
  obtain ⟨h1, h2, h3⟩ := hL
  refine ⟨h1, by rw [h 1 16 _ (by omega)]; exact h2, fun k k0 k1 => ?_⟩
  rw [h 1 17 _ (by omega), h 1 18 _ (by omega), h 1 19 _ (by omega), h 1 20 _ (by omega), h 1 23 _ (by omega)]
  exact h3 k k0 k1
theorem FL.ldn {M N : sl_M} {b n c : Int} {P : Pg} (h : FL M N b n) (hL : LdN M c P) : LdN N c P := fun k k0 k1 => by
  rw [h 1 21 _ (by omega), h 1 22 _ (by omega), h 1 24 _ (by omega)]
  exact hL k k0 k1
theorem FL.wy {M N : sl_M} {b n c : Int} {P : Pg} (h : FL M N b n) {k : Int} (hW : WYk M c P k) : WYk N c P k := by
  have e : ∀ i j, (i = 25 ∨ i = 26 ∨ i = 27 ∨ i = 28 ∨ i = 29) → N 1 i j = M 1 i j := fun i j hi => h 1 i j (by omega)
  unfold WYk WE at hW ⊢
  simp only [e 25 _ (by omega), e 26 _ (by omega), e 27 _ (by omega), e 28 _ (by omega), e 29 _ (by omega)]
  exact hW
/-- the measure of the passes -/
def mu (P : Pg) (L S : Int → Int) : Nat := (8 * (P 0 0).toNat - cnt L 0 (P 0 0).toNat) + cnt S 0 ((P 0 0).toNat + 1)
/-- since the pass began: nothing has changed, or something has grown -/
def Ch (P : Pg) (L0 S0 L S : Int → Int) (d : Int) : Prop := (∀ k v, v < 8 → 0 ≤ k → k < P 0 0 → bt (L0 k) v = true → bt (L k) v = true) ∧ (∀ k v, v < 8 → 0 ≤ k → k ≤ P 0 0 → bt (S k) v = true → bt (S0 k) v = true) ∧ (d = 0 ∨ d = 1) ∧ (d = 0 → (∀ k, 0 ≤ k → k < P 0 0 → L k = L0 k) ∧ (∀ k, 0 ≤ k → k ≤ P 0 0 → S k = S0 k)) ∧ (d = 1 → (∃ k, 0 ≤ k ∧ k < P 0 0 ∧ L0 k ≠ L k) ∨ (∃ k, 0 ≤ k ∧ k ≤ P 0 0 ∧ S k ≠ S0 k))
theorem Ch.lt {P : Pg} {L0 S0 L S : Int → Int} {d : Int} (h : Ch P L0 S0 L S d) (hn : 0 ≤ P 0 0) (hd : d = 1) (m1 : ∀ k, 0 ≤ k → k < P 0 0 → m8 (L0 k)) (m2 : ∀ k, 0 ≤ k → k < P 0 0 → m8 (L k)) (m3 : ∀ k, 0 ≤ k → k ≤ P 0 0 → m8 (S0 k)) (m4 : ∀ k, 0 ≤ k → k ≤ P 0 0 → m8 (S k)) : mu P L S < mu P L0 S0 := by
  obtain ⟨h1, h2, -, -, h5⟩ := h
  have b1 := cnt_le L 0 (P 0 0).toNat
  have b0 := cnt_le L0 0 (P 0 0).toNat
  have g1 : cnt L0 0 (P 0 0).toNat ≤ cnt L 0 (P 0 0).toNat := cnt_mono _ (fun i hi => pcn_mono (fun v hv => h1 _ v hv (by omega) (by omega)))
  have g2 : cnt S 0 ((P 0 0).toNat + 1) ≤ cnt S0 0 ((P 0 0).toNat + 1) := cnt_mono _ (fun i hi => pcn_mono (fun v hv => h2 _ v hv (by omega) (by omega)))
  unfold mu
  rcases h5 hd with ⟨k, k0, k1, k2⟩ | ⟨k, k0, k1, k2⟩
  · have := cnt_strict (L := L0) (L' := L) (f := 0) (P 0 0).toNat (fun i hi => pcn_mono (fun v hv => h1 _ v hv (by omega) (by omega))) ⟨k.toNat, by omega, by rw [show (0 : Int) + (k.toNat : Int) = k by omega]; exact pcn_strict (m1 k k0 k1) (m2 k k0 k1) (fun v hv => h1 k v hv k0 k1) k2⟩
    omega
  · have := cnt_strict (L := S) (L' := S0) (f := 0) ((P 0 0).toNat + 1) (fun i hi => pcn_mono (fun v hv => h2 _ v hv (by omega) (by omega))) ⟨k.toNat, by omega, by rw [show (0 : Int) + (k.toNat : Int) = k by omega]; exact pcn_strict (m4 k k0 k1) (m3 k k0 k1) (fun v hv => h2 k v hv k0 k1) k2⟩
    omega
theorem Ch.sure {P : Pg} {L0 S0 L S : Int → Int} {d : Int} (h : Ch P L0 S0 L S d) {t m : Int} (ht : 0 ≤ t ∧ t ≤ P 0 0) (m3 : ∀ k, 0 ≤ k → k ≤ P 0 0 → m8 (S0 k)) (m4 : ∀ k, 0 ≤ k → k ≤ P 0 0 → m8 (S k)) : Ch P L0 S0 L (up S t (iand (S t) m)) (if d ≠ 0 ∨ ¬ (iand (S t) m = S t) then 1 else 0) := by
  obtain ⟨h1, h2, h3, h4, h5⟩ := h
  have les : ∀ k v, bt (up S t (iand (S t) m) k) v = true → bt (S k) v = true := by
    intro k v q
    by_cases c : k = t
    · rw [c, up_s, bt_iand, Bool.and_eq_true] at q
      rw [c]; exact q.1
    · rw [up_o c] at q; exact q
  refine ⟨h1, fun k v hv k0 k1 q => h2 k v hv k0 k1 (les k v q), b_01, fun q => ?_, fun q => ?_⟩
  · have q := b_eq0.mp q
    have d0 : d = 0 := by omega
    have e : iand (S t) m = S t := by
      refine Classical.byContradiction fun z => q (Or.inr z)
    refine ⟨(h4 d0).1, fun k k0 k1 => ?_⟩
    by_cases c : k = t
    · rw [c, up_s, e, ← c]; exact (h4 d0).2 k k0 k1
    · rw [up_o c]; exact (h4 d0).2 k k0 k1
  · by_cases d1 : d = 1
    · rcases h5 d1 with z | ⟨k, k0, k1, k2⟩
      · exact Or.inl z
      · refine Or.inr ⟨k, k0, k1, fun e => k2 ?_⟩
        refine m8_ext (m4 k k0 k1) (m3 k k0 k1) (fun v hv => bt_iffT ⟨h2 k v hv k0 k1, fun z => ?_⟩)
        rw [← e] at z
        exact les k v z
    · have d0 : d = 0 := h3.resolve_right d1
      have q := b_ne0.mp (by rw [q]; decide : (if d ≠ 0 ∨ ¬ (iand (S t) m = S t) then (1 : Int) else 0) ≠ 0)
      have ne : ¬ (iand (S t) m = S t) := by
        rcases q with z | z
        · exact absurd d0 z
        · exact z
      refine Or.inr ⟨t, ht.1, ht.2, ?_⟩
      rw [up_s, ← (h4 d0).2 t ht.1 ht.2]
      exact ne
theorem Ch.live {P : Pg} {L0 S0 L S : Int → Int} {d : Int} (h : Ch P L0 S0 L S d) {k r : Int} (hk : 0 ≤ k ∧ k < P 0 0) (hr : ∀ v, v < 8 → bt (L k) v = true → bt r v = true) (m1 : ∀ k, 0 ≤ k → k < P 0 0 → m8 (L0 k)) (m2 : ∀ k, 0 ≤ k → k < P 0 0 → m8 (L k)) : Ch P L0 S0 (up L k r) S (if d ≠ 0 ∨ ¬ (r = L k) then 1 else 0) := by
  obtain ⟨h1, h2, h3, h4, h5⟩ := h
  have gro : ∀ y v, v < 8 → bt (L y) v = true → bt (up L k r y) v = true := by
    intro y v hv q
    by_cases c : y = k
    · rw [c, up_s]; rw [c] at q; exact hr v hv q
    · rw [up_o c]; exact q
  refine ⟨fun y v hv y0 y1 q => gro y v hv (h1 y v hv y0 y1 q), h2, b_01, fun q => ?_, fun q => ?_⟩
  · have q := b_eq0.mp q
    have d0 : d = 0 := by omega
    have e : r = L k := by
      refine Classical.byContradiction fun z => q (Or.inr z)
    refine ⟨fun y y0 y1 => ?_, (h4 d0).2⟩
    by_cases c : y = k
    · rw [c, up_s, e, ← c]; exact (h4 d0).1 y y0 y1
    · rw [up_o c]; exact (h4 d0).1 y y0 y1
  · by_cases d1 : d = 1
    · rcases h5 d1 with ⟨y, y0, y1, y2⟩ | z
      · refine Or.inl ⟨y, y0, y1, fun e => y2 ?_⟩
        refine m8_ext (m1 y y0 y1) (m2 y y0 y1) (fun v hv => bt_iffT ⟨h1 y v hv y0 y1, fun z => ?_⟩)
        rw [e]
        exact gro y v hv z
      · exact Or.inr z
    · have d0 : d = 0 := h3.resolve_right d1
      have q := b_ne0.mp (by rw [q]; decide : (if d ≠ 0 ∨ ¬ (r = L k) then (1 : Int) else 0) ≠ 0)
      have ne : ¬ (r = L k) := by
        rcases q with z | z
        · exact absurd d0 z
        · exact z
      refine Or.inl ⟨k, hk.1, hk.2, ?_⟩
      rw [up_s, ← (h4 d0).1 k hk.1 hk.2]
      exact fun z => ne z.symm
