/-! The reference: a span is walked -/
/-- what the walk must find -/
def WS (N : sl_M) (P : Pg) (f t : Int) : Prop := (∀ k, f ≤ k → k ≤ t → (N 1 41 k = 0 ∧ ¬ Rw P f t wA k) ∨ (N 1 41 k = 1 ∧ Rw P f t wA k ∧ m8 (N 1 42 k) ∧ ∀ v, v < 8 → (bt (N 1 42 k) v = false ↔ Rw P f t (wV v) k))) ∧ N 1 0 33 = sX P f t ∧ ∀ e, e4 e → N 1 39 (sp_place e) = cif (xE P f t e) (msk fun v => ¬ mU P f t e v) 255
def FWs (M N : sl_M) : Prop := ∀ o i j, ¬ (o = 1 ∧ (i = 41 ∨ i = 42 ∨ i = 39 ∨ (i = 0 ∧ j = 33))) → N o i j = M o i j
theorem FWs.rf {M : sl_M} : FWs M M := fun _ _ _ _ => rfl
theorem FWs.tr {M N O : sl_M} (h1 : FWs M N) (h2 : FWs N O) : FWs M O := fun o i j z => (h2 o i j z).trans (h1 o i j z)
theorem bt_255 {v : Nat} (h : v < 8) : bt 255 v = true := by
  have : ∀ v, v < 8 → bt 255 v = true := by decide +kernel
  exact this v h
theorem m8_255 : m8 255 := ⟨by decide, by decide⟩
theorem sp_inj {e q : Int} (he : e4 e) (hq : e4 q) (h : sp_place e = sp_place q) : e = q := by
  unfold sp_place at h
  rcases he with rfl | rfl | rfl | rfl <;> rcases hq with rfl | rfl | rfl | rfl <;> simp at h ⊢
theorem sp_bd {e : Int} : 0 ≤ sp_place e ∧ sp_place e < 4 := by
  unfold sp_place
  repeat' split
  all_goals omega
theorem ex_dec : ∀ n : Nat, n < 16 → (n : Int) = (if iand (n : Int) 1 ≠ 0 then 1 else 0) + (if iand (n : Int) 2 ≠ 0 then 2 else 0) + (if iand (n : Int) 4 ≠ 0 then 4 else 0) + (if iand (n : Int) 8 ≠ 0 then 8 else 0) := by decide +kernel
theorem ex_or : ∀ n : Nat, n < 16 → ∀ e : Int, e = 1 ∨ e = 2 ∨ e = 4 ∨ e = 8 → (0 ≤ ior (n : Int) e ∧ ior (n : Int) e < 16) ∧ ∀ q : Int, q = 1 ∨ q = 2 ∨ q = 4 ∨ q = 8 → (iand (ior (n : Int) e) q ≠ 0 ↔ (iand (n : Int) q ≠ 0 ∨ q = e)) := by
  intro n hn e he
  have h : ∀ n : Nat, n < 16 → ∀ a : Nat, a < 4 → (0 ≤ ior (n : Int) (2 ^ a : Nat) ∧ ior (n : Int) (2 ^ a : Nat) < 16) ∧ ∀ b : Nat, b < 4 → (iand (ior (n : Int) (2 ^ a : Nat)) (2 ^ b : Nat) ≠ 0 ↔ (iand (n : Int) (2 ^ b : Nat) ≠ 0 ∨ b = a)) := by decide +kernel
  have pw : ∀ q : Int, q = 1 ∨ q = 2 ∨ q = 4 ∨ q = 8 → ∃ a : Nat, a < 4 ∧ q = ((2 ^ a : Nat) : Int) := by
    rintro q (rfl | rfl | rfl | rfl)
    · exact ⟨0, by decide, by decide⟩
    · exact ⟨1, by decide, by decide⟩
    · exact ⟨2, by decide, by decide⟩
    · exact ⟨3, by decide, by decide⟩
  obtain ⟨a, ha, rfl⟩ := pw e he
  obtain ⟨h1, h2⟩ := h n hn a ha
  refine ⟨h1, fun q hq => ?_⟩
  obtain ⟨b, hb, rfl⟩ := pw q hq
  rw [h2 b hb]
  constructor
  · rintro (z | rfl)
    · exact Or.inl z
    · exact Or.inr rfl
  · rintro (z | z)
    · exact Or.inl z
    · right
      rcases (show a = 0 ∨ a = 1 ∨ a = 2 ∨ a = 3 by omega) with rfl | rfl | rfl | rfl <;> rcases (show b = 0 ∨ b = 1 ∨ b = 2 ∨ b = 3 by omega) with rfl | rfl | rfl | rfl <;> first | rfl | (exfalso; revert z; decide)
section W
variable {P : Pg} {f t : Int}
/-- as far as the walk has come -/
def WI (P : Pg) (f t : Int) (C U : Int → Int) (X : Int) (A : Int → Int) : Prop :=
  (∀ k, f ≤ k → k ≤ t → (C k = 0 ∧ U k = 255) ∨ (C k = 1 ∧ m8 (U k) ∧ Rw P f t wA k ∧ ∀ v, v < 8 → bt (U k) v = false → Rw P f t (wV v) k)) ∧ (C f = 1 ∧ ∀ v, v < 8 → bt (U f) v = false) ∧ (0 ≤ X ∧ X < 16 ∧ ∀ e, e4 e → iand X e ≠ 0 → xE P f t e) ∧
  (∀ e, e4 e → m8 (A (sp_place e)) ∧ (¬ xE P f t e → A (sp_place e) = 255) ∧ ∀ v, v < 8 → bt (A (sp_place e)) v = false → mU P f t e v)
/-- node k's edges have been followed -/
def WC (P : Pg) (f t : Int) (C U : Int → Int) (X : Int) (A : Int → Int) (k x S : Int) : Prop := (0 ≤ x → C x = 1 ∧ ∀ v, v < 8 → bt (U k) v = false → bt S v = false → bt (U x) v = false) ∧ (∀ e, e4 e → x = -e → iand X e ≠ 0 ∧ ∀ v, v < 8 → bt (U k) v = false → bt S v = false → bt (A (sp_place e)) v = false)
theorem WI.mm {C U : Int → Int} {X : Int} {A : Int → Int} (h : WI P f t C U X A) {k : Int} (h1 : f ≤ k) (h2 : k ≤ t) : m8 (U k) := by
  rcases h.1 k h1 h2 with ⟨-, q⟩ | ⟨-, q, -⟩
  · rw [q]; exact m8_255
  · exact q
theorem WI.stay (hw : WF P) (hr : Rg P f t) {C U : Int → Int} {X : Int} {A : Int → Int} (h : WI P f t C U X A) {k x S : Int} (hk : f ≤ k ∧ k ≤ t) (hC : C k = 1) (he : Ed P f t k x S) (hx : 0 ≤ x) (hS : m8 S) : WI P f t (up C x 1) (up U x (iand (U x) (ior (U k) S))) X A := by
  obtain ⟨h1, h2, h3, h4⟩ := h
  have mk := WI.mm ⟨h1, h2, h3, h4⟩ hk.1 hk.2
  obtain ⟨-, -, rk, vk⟩ : C k = 1 ∧ m8 (U k) ∧ Rw P f t wA k ∧ ∀ v, v < 8 → bt (U k) v = false → Rw P f t (wV v) k := by
    rcases h1 k hk.1 hk.2 with ⟨q, -⟩ | q
    · omega
    · exact q
  refine ⟨fun y y1 y2 => ?_, ⟨?_, fun v hv => ?_⟩, h3, h4⟩
  · by_cases c : y = x
    · subst c
      rw [up_s, up_s]
      refine Or.inr ⟨rfl, m8_and' (m8_or mk hS), rk.step hk.1 hk.2 he hx trivial, fun v hv q => ?_⟩
      rw [bt_iand, bt_ior] at q
      cases e : bt (U y) v
      · rcases h1 y y1 y2 with ⟨-, z⟩ | ⟨-, -, -, z⟩
        · rw [z, bt_255 hv] at e; cases e
        · exact z v hv e
      · rw [e, Bool.true_and, Bool.or_eq_false_iff] at q
        exact (vk v hv q.1).step hk.1 hk.2 he hx q.2
    · rw [up_o c, up_o c]; exact h1 y y1 y2
  · by_cases c : f = x
    · rw [← c, up_s]
    · rw [up_o c]; exact h2.1
  · by_cases c : f = x
    · rw [← c, up_s, bt_iand, h2.2 v hv, Bool.false_and]
    · rw [up_o c]; exact h2.2 v hv
theorem WI.leave {C U : Int → Int} {X : Int} {A : Int → Int} (h : WI P f t C U X A) {k S e : Int} (hk : f ≤ k ∧ k ≤ t) (hC : C k = 1) (he4 : e4 e) (he : Ed P f t k (-e) S) (hS : m8 S) : WI P f t C U (ior X e) (up A (sp_place e) (iand (A (sp_place e)) (ior (U k) S))) := by
  obtain ⟨h1, h2, h3, h4⟩ := h
  have mk := WI.mm ⟨h1, h2, h3, h4⟩ hk.1 hk.2
  obtain ⟨-, -, rk, vk⟩ : C k = 1 ∧ m8 (U k) ∧ Rw P f t wA k ∧ ∀ v, v < 8 → bt (U k) v = false → Rw P f t (wV v) k := by
    rcases h1 k hk.1 hk.2 with ⟨q, -⟩ | q
    · omega
    · exact q
  have hx : xE P f t e := ⟨k, S, hk.1, hk.2, rk, he⟩
  have hor := ex_or X.toNat (by omega) e he4
  rw [show ((X.toNat : Nat) : Int) = X by omega] at hor
  refine ⟨h1, h2, ⟨hor.1.1, hor.1.2, fun q hq z => ?_⟩, fun q hq => ?_⟩
  · rcases (hor.2 q hq).mp z with z | rfl
    · exact h3.2.2 q hq z
    · exact hx
  · by_cases c : sp_place q = sp_place e
    · have := sp_inj hq he4 c
      subst this
      rw [up_s]
      refine ⟨m8_and' (m8_or mk hS), fun z => absurd hx z, fun v hv z => ?_⟩
      rw [bt_iand, bt_ior] at z
      cases e1 : bt (A (sp_place q)) v
      · exact (h4 q hq).2.2 v hv e1
      · rw [e1, Bool.true_and, Bool.or_eq_false_iff] at z
        exact ⟨k, S, hk.1, hk.2, vk v hv z.1, he, z.2⟩
    · rw [up_o c]; exact h4 q hq
theorem WI.done {N : sl_M} (hw : WF P) (hr : Rg P f t) (h : WI P f t (N 1 41) (N 1 42) (N 1 0 33) (N 1 39)) (hc : ∀ k, f ≤ k → k ≤ t → N 1 41 k = 1 → ∀ x S, Ed P f t k x S → WC P f t (N 1 41) (N 1 42) (N 1 0 33) (N 1 39) k x S) : WS N P f t := by
  obtain ⟨h1, h2, h3, h4⟩ := h
  have rA : ∀ k, Rw P f t wA k → f ≤ k ∧ k ≤ t ∧ N 1 41 k = 1 := fun k q => q (fun y => f ≤ y ∧ y ≤ t ∧ N 1 41 y = 1) ⟨Int.le_refl _, hr.2.1, h2.1⟩ (fun a x S a1 a2 z he hx _ => ⟨(fw_ed hw hr ⟨a1, a2⟩ he hx).1.1, (fw_ed hw hr ⟨a1, a2⟩ he hx).1.2, ((hc a a1 a2 z.2.2 x S he).1 hx).1⟩)
  have rV : ∀ v, v < 8 → ∀ k, Rw P f t (wV v) k → f ≤ k ∧ k ≤ t ∧ N 1 41 k = 1 ∧ bt (N 1 42 k) v = false := fun v hv k q => q (fun y => f ≤ y ∧ y ≤ t ∧ N 1 41 y = 1 ∧ bt (N 1 42 y) v = false) ⟨Int.le_refl _, hr.2.1, h2.1, h2.2 v hv⟩ (fun a x S a1 a2 z he hx hS => ⟨(fw_ed hw hr ⟨a1, a2⟩ he hx).1.1, (fw_ed hw hr ⟨a1, a2⟩ he hx).1.2, ((hc a a1 a2 z.2.2.1 x S he).1 hx).1, ((hc a a1 a2 z.2.2.1 x S he).1 hx).2 v hv z.2.2.2 hS⟩)
  have ex : ∀ e, e4 e → (iand (N 1 0 33) e ≠ 0 ↔ xE P f t e) := by
    intro e he
    refine ⟨h3.2.2 e he, ?_⟩
    rintro ⟨k, S, k1, k2, k3, k4⟩
    exact ((hc k k1 k2 (rA k k3).2.2 _ S k4).2 e he rfl).1
  refine ⟨fun k k1 k2 => ?_, ?_, fun e he => ?_⟩
  · rcases h1 k k1 k2 with ⟨a, b⟩ | ⟨a, b, c, d⟩
    · exact Or.inl ⟨a, fun q => by have := (rA k q).2.2; omega⟩
    · exact Or.inr ⟨a, c, b, fun v hv => ⟨d v hv, fun q => (rV v hv k q).2.2.2⟩⟩
  · have d := ex_dec (N 1 0 33).toNat (by omega)
    rw [show (((N 1 0 33).toNat : Nat) : Int) = N 1 0 33 by omega] at d
    rw [d]
    unfold sX
    have one : ∀ e, e4 e → (if iand (N 1 0 33) e ≠ 0 then e else 0) = e * bi (xE P f t e) := by
      intro e he
      by_cases c : xE P f t e
      · rw [if_pos ((ex e he).mpr c), bi1 c, Int.mul_one]
      · rw [if_neg (fun z => c ((ex e he).mp z)), bi0 c, Int.mul_zero]
    rw [one 1 (Or.inl rfl), one 2 (Or.inr (Or.inl rfl)), one 4 (Or.inr (Or.inr (Or.inl rfl))), one 8 (Or.inr (Or.inr (Or.inr rfl)))]
    omega
  · obtain ⟨a, b, c⟩ := h4 e he
    by_cases cx : xE P f t e
    · rw [cif1 cx]
      refine msk_eq a (fun v hv => ?_)
      constructor
      · rintro q ⟨k, S, k1, k2, k3, k4, k5⟩
        obtain ⟨z1, z2, z3, z4⟩ := rV v hv k k3
        have := ((hc k k1 k2 z3 _ S k4).2 e he rfl).2 v hv z4 k5
        rw [this] at q; cases q
      · intro q
        cases e1 : bt (N 1 39 (sp_place e)) v
        · exact absurd (c v hv e1) q
        · rfl
    · rw [cif0 cx]; exact b cx
/-- the measure of the walk -/
def gm (C U : Int → Int) (k : Int) : Nat := if C k = 0 then 9 else pcn (U k)
def gsum (C U : Int → Int) (f : Int) : Nat → Nat
  | 0 => 0
  | n + 1 => gsum C U f n + gm C U (f + n)
theorem gsum_mono {C U C' U' : Int → Int} {f : Int} : ∀ n : Nat, (∀ i : Nat, i < n → gm C U (f + i) ≤ gm C' U' (f + i)) → gsum C U f n ≤ gsum C' U' f n := by
  intro n
  induction n with
  | zero => intro _; exact Nat.le_refl _
  | succ n ih =>
    intro h
    have := ih (fun i hi => h i (by omega))
    have := h n (by omega)
    show gsum C U f n + _ ≤ gsum C' U' f n + _
    omega
theorem gsum_strict {C U C' U' : Int → Int} {f : Int} : ∀ n : Nat, (∀ i : Nat, i < n → gm C U (f + i) ≤ gm C' U' (f + i)) → (∃ i : Nat, i < n ∧ gm C U (f + i) < gm C' U' (f + i)) → gsum C U f n < gsum C' U' f n := by
  intro n
  induction n with
  | zero => rintro _ ⟨i, h, -⟩; omega
  | succ n ih =>
    rintro h ⟨i, h1, h2⟩
    show gsum C U f n + _ < gsum C' U' f n + _
    have := h n (by omega)
    by_cases c : i = n
    · subst c
      have := gsum_mono (C := C) (U := U) (C' := C') (U' := U') (f := f) i (fun j hj => h j (by omega))
      omega
    · have := ih (fun j hj => h j (by omega)) ⟨i, by omega, h2⟩
      omega
/-- since the pass began -/
def CU (f t : Int) (C0 U0 C U : Int → Int) (d : Int) : Prop := (∀ k, f ≤ k → k ≤ t → (C0 k = 1 → C k = 1) ∧ ∀ v, v < 8 → bt (U k) v = true → bt (U0 k) v = true) ∧ (d = 0 ∨ d = 1) ∧ (d = 0 → ∀ k, f ≤ k → k ≤ t → C k = C0 k ∧ U k = U0 k) ∧ (d = 1 → ∃ k, f ≤ k ∧ k ≤ t ∧ ((C0 k = 0 ∧ C k = 1) ∨ U k ≠ U0 k))
theorem CU.lt {C0 U0 C U : Int → Int} {X X0 : Int} {A A0 : Int → Int} {d : Int} (hft : f ≤ t) (h : CU f t C0 U0 C U d) (hd : d = 1) (i0 : WI P f t C0 U0 X0 A0) (i1 : WI P f t C U X A) : gsum C U f (t - f + 1).toNat < gsum C0 U0 f (t - f + 1).toNat := by
  obtain ⟨h1, -, -, h4⟩ := h
  have le : ∀ k, f ≤ k → k ≤ t → gm C U k ≤ gm C0 U0 k := by
    intro k k1 k2
    obtain ⟨a, b⟩ := h1 k k1 k2
    have p1 := pcn_le (U k)
    have p2 := pcn_mono b
    unfold gm
    rcases i0.1 k k1 k2 with ⟨q, -⟩ | ⟨q, -⟩
    · rw [if_pos q]
      split <;> omega
    · have := a q
      rw [if_neg (by omega), if_neg (by omega)]; exact p2
  obtain ⟨k, k1, k2, k3⟩ := h4 hd
  refine gsum_strict _ (fun i hi => le _ (by omega) (by omega)) ⟨(k - f).toNat, by omega, ?_⟩
  rw [show f + ((k - f).toNat : Int) = k by omega]
  obtain ⟨a, b⟩ := h1 k k1 k2
  have p1 := pcn_le (U k)
  unfold gm
  rcases k3 with ⟨z1, z2⟩ | z
  · rw [if_pos z1, if_neg (by omega)]; omega
  · rcases i0.1 k k1 k2 with ⟨q, q2⟩ | ⟨q, -⟩
    · rcases i1.1 k k1 k2 with ⟨y, y2⟩ | ⟨y, -⟩
      · rw [q2, y2] at z; exact absurd rfl z
      · rw [if_pos q, if_neg (by omega)]; omega
    · have := a q
      rw [if_neg (by omega), if_neg (by omega)]
      exact pcn_strict (i1.mm k1 k2) (i0.mm k1 k2) b z
theorem CU.step {C0 U0 C U : Int → Int} {X X0 : Int} {A A0 : Int → Int} {d : Int} (h : CU f t C0 U0 C U d) (i0 : WI P f t C0 U0 X0 A0) (i1 : WI P f t C U X A) {x m : Int} (hx : f ≤ x ∧ x ≤ t) : CU f t C0 U0 (up C x 1) (up U x (iand (U x) m)) (if (d ≠ 0) ∨ ((C x = 0) ∨ (¬ (iand (U x) m = U x))) then 1 else 0) := by
  obtain ⟨h1, h2, h3, h4⟩ := h
  have les : ∀ k v, bt (up U x (iand (U x) m) k) v = true → bt (U k) v = true := by
    intro k v q
    by_cases c : k = x
    · rw [c, up_s, bt_iand, Bool.and_eq_true] at q
      rw [c]; exact q.1
    · rw [up_o c] at q; exact q
  have c1 : ∀ k, f ≤ k → k ≤ t → C k = 1 → up C x 1 k = 1 := by
    intro k _ _ q
    by_cases c : k = x
    · rw [c, up_s]
    · rw [up_o c]; exact q
  refine ⟨fun k k1 k2 => ⟨fun q => c1 k k1 k2 ((h1 k k1 k2).1 q), fun v hv q => (h1 k k1 k2).2 v hv (les k v q)⟩, b_01, fun q => ?_, fun q => ?_⟩
  · have q := b_eq0.mp q
    have d0 : d = 0 := Classical.byContradiction fun z => q (Or.inl z)
    have q1 : ¬ C x = 0 := fun z => q (Or.inr (Or.inl z))
    have q2 : iand (U x) m = U x := Classical.byContradiction fun z => q (Or.inr (Or.inr z))
    intro k k1 k2
    obtain ⟨z1, z2⟩ := h3 d0 k k1 k2
    by_cases c : k = x
    · subst c
      rw [up_s, up_s, q2]
      refine ⟨?_, z2⟩
      rcases i1.1 k k1 k2 with ⟨y, -⟩ | ⟨y, -⟩
      · exact absurd y q1
      · rw [← z1, y]
    · rw [up_o c, up_o c]; exact ⟨z1, z2⟩
  · by_cases d1 : d = 1
    · obtain ⟨k, k1, k2, k3⟩ := h4 d1
      refine ⟨k, k1, k2, ?_⟩
      rcases k3 with ⟨z1, z2⟩ | z
      · exact Or.inl ⟨z1, c1 k k1 k2 z2⟩
      · refine Or.inr fun e => z ?_
        refine m8_ext (i1.mm k1 k2) (i0.mm k1 k2) (fun v hv => bt_iffT ⟨(h1 k k1 k2).2 v hv, fun y => ?_⟩)
        rw [← e] at y
        exact les k v y
    · have d0 : d = 0 := h2.resolve_right d1
      have q := b_ne0.mp (by rw [q]; decide : (if (d ≠ 0) ∨ ((C x = 0) ∨ (¬ (iand (U x) m = U x))) then (1 : Int) else 0) ≠ 0)
      obtain ⟨z1, z2⟩ := h3 d0 x hx.1 hx.2
      refine ⟨x, hx.1, hx.2, ?_⟩
      rw [up_s, up_s]
      rcases q with q | q | q
      · exact absurd d0 q
      · exact Or.inl ⟨by rw [← z1]; exact q, rfl⟩
      · exact Or.inr (by rw [← z2]; exact q)
end W
