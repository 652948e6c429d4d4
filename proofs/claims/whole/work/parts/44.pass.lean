/-! One pass in the order of the text finds what each path sets -/
def up (B : Int → Int) (x v : Int) : Int → Int := fun y => if y = x then v else B y
theorem up_s {B : Int → Int} {x v : Int} : up B x v x = v := if_pos rfl
theorem up_o {B : Int → Int} {x v y : Int} (h : y ≠ x) : up B x v y = B y := if_neg h
/-- an edge's mask comes to its target: (before, at the exits) -/
def rB (B : Int → Int) (x m : Int) : Int → Int := if 0 ≤ x then up B x (iand (B x) m) else B
def rA (A : Int → Int) (x m : Int) : Int → Int := if 0 ≤ x then A else up A (-x) (iand (A (-x)) m)
def ClO (B A : Int → Int) (a x S : Int) : Prop := (0 ≤ x → B x ≠ -1 ∧ ∀ v, v < 8 → bt (B a) v = false → bt S v = false → bt (B x) v = false) ∧ (x < 0 → A (-x) ≠ -1 ∧ ∀ v, v < 8 → bt (B a) v = false → bt S v = false → bt (A (-x)) v = false)
def FI (P : Pg) (f t st : Int) (B A : Int → Int) (k : Int) (E : Int → Int → Prop) : Prop :=
  (∀ x, f ≤ x → x ≤ t → B x ≠ -1 → Rw P f t wA x ∧ m8 (B x) ∧ ∀ v, v < 8 → bt (B x) v = false → (bt st v = false ∧ Rw P f t (wV v) x)) ∧
  (∀ e, (e = 1 ∨ e = 2 ∨ e = 4 ∨ e = 8) → A e ≠ -1 → (∃ k S, f ≤ k ∧ k ≤ t ∧ Rw P f t wA k ∧ Ed P f t k (-e) S) ∧ m8 (A e) ∧ ∀ v, v < 8 → bt (A e) v = false → (bt st v = false ∧ ∃ k S, f ≤ k ∧ k ≤ t ∧ Rw P f t (wV v) k ∧ Ed P f t k (-e) S ∧ bt S v = false)) ∧
  (∀ a x S, f ≤ a → a ≤ t → (a < k ∨ (a = k ∧ E x S)) → B a ≠ -1 → Ed P f t a x S → ClO B A a x S) ∧
  (∀ j x, f ≤ j → j < x → x ≤ t → x < P 3 j → P 1 j = 6 → B x ≠ -1 → B j ≠ -1 ∧ ∀ v, v < 8 → bt (B j) v = true → bt (B x) v = true) ∧
  (B f ≠ -1 ∧ ∀ v, v < 8 → bt st v = false → bt (B f) v = false)
theorem bt_m1' {b : Int} (h : b = -1) {v : Nat} (hv : v < 8) : bt b v = true := by rw [h]; exact bt_m1 (by omega)
theorem m8_ne {m : Int} (h : m8 m) : m ≠ -1 := by unfold m8 at h; omega
section F
variable {P : Pg} {f t st : Int} {B A : Int → Int} {k : Int} {E : Int → Int → Prop}
/-- an edge of k is followed -/
theorem FI.reach (hw : WF P) (hr : Rg P f t) (hS : ∀ a x S, f ≤ a → a ≤ t → Ed P f t a x S → m8 S) (h : FI P f t st B A k E) (hk : f ≤ k ∧ k ≤ t) (hB : B k ≠ -1) {x S : Int} (he : Ed P f t k x S) :
    FI P f t st (rB B x (ior (B k) S)) (rA A x (ior (B k) S)) k (fun y T => E y T ∨ (y = x ∧ T = S)) ∧ (rB B x (ior (B k) S)) k = B k := by
  obtain ⟨h1, h2, h3, h4, h5⟩ := h
  obtain ⟨s1, s2, s3⟩ := h1 k hk.1 hk.2 hB
  have mS := hS k x S hk.1 hk.2 he
  have mm : m8 (ior (B k) S) := m8_or s2 mS
  by_cases hx : 0 ≤ x
  · have hB' : rB B x (ior (B k) S) = up B x (iand (B x) (ior (B k) S)) := if_pos hx
    have hA' : rA A x (ior (B k) S) = A := if_pos hx
    rw [hB', hA']
    obtain ⟨f1, f2⟩ := fw_ed hw hr hk he hx
    have mn : m8 (iand (B x) (ior (B k) S)) := m8_and' mm
    -- nothing changes on the way back
    have back : x ≤ k → iand (B x) (ior (B k) S) = B x := by
      intro hle
      rcases f2 with ⟨-, c1, c2⟩ | ⟨c, -⟩
      · have hb : B x ≠ -1 ∧ ∀ v, v < 8 → bt (B x) v = true → bt (B k) v = true := by
          rcases c2 with rfl | ⟨c2, c3⟩
          · exact ⟨hB, fun _ _ q => q⟩
          · exact h4 x k f1.1 c2 hk.2 c3 c1 hB
        obtain ⟨-, q2, -⟩ := h1 x f1.1 f1.2 hb.1
        refine m8_ext mn q2 (fun v hv => ?_)
        rw [bt_iand, bt_ior]
        cases e : bt (B x) v
        · simp
        · rw [hb.2 v hv e]; simp
      · omega
    have hkk : up B x (iand (B x) (ior (B k) S)) k = B k := by
      by_cases c : k = x
      · subst c; rw [up_s]; exact back (Int.le_refl _)
      · exact up_o c
    -- what the cells are now
    have val : ∀ y, f ≤ y → y ≤ t → ∀ v, v < 8 → bt (up B x (iand (B x) (ior (B k) S)) y) v = false → bt (B y) v = false ∨ (y = x ∧ bt (B k) v = false ∧ bt S v = false) := by
      intro y _ _ v hv q
      by_cases c : y = x
      · subst c
        rw [up_s, bt_iand, bt_ior] at q
        cases e : bt (B y) v
        · exact Or.inl rfl
        · rw [e, Bool.true_and, Bool.or_eq_false_iff] at q
          exact Or.inr ⟨rfl, q.1, q.2⟩
      · rw [up_o c] at q; exact Or.inl q
    have les : ∀ y v, bt (B y) v = false → bt (up B x (iand (B x) (ior (B k) S)) y) v = false := by
      intro y v q
      by_cases c : y = x
      · subst c; rw [up_s, bt_iand, q, Bool.false_and]
      · rw [up_o c]; exact q
    have nel : ∀ y, B y ≠ -1 → up B x (iand (B x) (ior (B k) S)) y ≠ -1 := by
      intro y q
      by_cases c : y = x
      · subst c; rw [up_s]; exact m8_ne mn
      · rw [up_o c]; exact q
    -- before k nothing changes
    have old : ∀ a, a ≤ k → up B x (iand (B x) (ior (B k) S)) a = B a := by
      intro a ha
      by_cases c : a = x
      · subst c; rw [up_s]; exact back ha
      · exact up_o c
    refine ⟨⟨?_, h2, ?_, ?_, ?_⟩, hkk⟩
    · intro y y1 y2 y3
      by_cases c : y = x
      · subst c
        refine ⟨s1.step hk.1 hk.2 he hx trivial, by rw [up_s]; exact mn, fun v hv q => ?_⟩
        rcases val y y1 y2 v hv q with q | ⟨-, q1, q2⟩
        · by_cases cy : B y = -1
          · rw [bt_m1' cy hv] at q; cases q
          · exact (h1 y y1 y2 cy).2.2 v hv q
        · exact ⟨(s3 v hv q1).1, (s3 v hv q1).2.step hk.1 hk.2 he hx q2⟩
      · rw [up_o c] at y3 ⊢
        exact h1 y y1 y2 y3
    · intro a y T a1 a2 a3 a4 a5
      by_cases c : a = k ∧ y = x ∧ T = S
      · obtain ⟨rfl, rfl, rfl⟩ := c
        refine ⟨fun _ => ⟨by rw [up_s]; exact m8_ne mn, fun v hv q1 q2 => ?_⟩, fun z => by omega⟩
        rw [hkk] at q1
        rw [up_s, bt_iand, bt_ior, q1, q2]; simp
      · have e : up B x (iand (B x) (ior (B k) S)) a = B a := old a (by omega)
        rw [e] at a4
        have := h3 a y T a1 a2 (by
          rcases a3 with q | ⟨q, q2 | q2⟩
          · exact Or.inl q
          · exact Or.inr ⟨q, q2⟩
          · exact absurd ⟨q, q2⟩ c) a4 a5
        refine ⟨fun z => ⟨nel y (this.1 z).1, fun v hv q1 q2 => ?_⟩, fun z => ⟨(this.2 z).1, fun v hv q1 q2 => ?_⟩⟩
        · rw [e] at q1; exact les y v ((this.1 z).2 v hv q1 q2)
        · rw [e] at q1; exact (this.2 z).2 v hv q1 q2
    · intro j y j1 j2 j3 j4 j5 j6
      by_cases c : y = x
      · subst c
        -- the target stands inside loop j
        have hjk : B j ≠ -1 ∧ ∀ v, v < 8 → bt (B j) v = true → bt (B k) v = true := by
          rcases f2 with ⟨c0, c1, c2⟩ | ⟨c0, c1⟩
          · have hb : B y ≠ -1 := by
              have := back c0
              rw [up_s, this] at j6
              exact j6
            obtain ⟨g1, g2⟩ := h4 j y j1 j2 j3 j4 j5 hb
            refine ⟨g1, fun v hv q => ?_⟩
            have q2 := g2 v hv q
            rcases c2 with rfl | ⟨c2, c3⟩
            · exact q2
            · exact (h4 y k f1.1 c2 hk.2 c3 c1 hB).2 v hv q2
          · rcases c1 j j1 j2 j4 with rfl | ⟨d1, d2⟩
            · exact ⟨hB, fun _ _ q => q⟩
            · exact h4 j k j1 d1 hk.2 d2 j5 hB
        have hj : j ≠ y := by omega
        rw [up_o hj]
        refine ⟨hjk.1, fun v hv q => ?_⟩
        rw [up_s, bt_iand, bt_ior, hjk.2 v hv q, Bool.true_or, Bool.and_true]
        by_cases cy : B y = -1
        · exact bt_m1' cy hv
        · exact (h4 j y j1 j2 j3 j4 j5 cy).2 v hv q
      · rw [up_o c] at j6 ⊢
        obtain ⟨g1, g2⟩ := h4 j y j1 j2 j3 j4 j5 j6
        refine ⟨nel j g1, fun v hv q => g2 v hv ?_⟩
        cases e : bt (B j) v
        · rw [les j v e] at q; cases q
        · rfl
    · exact ⟨nel f h5.1, fun v hv q => les f v (h5.2 v hv q)⟩
  · have hB' : rB B x (ior (B k) S) = B := if_neg hx
    have hA' : rA A x (ior (B k) S) = up A (-x) (iand (A (-x)) (ior (B k) S)) := if_neg hx
    rw [hB', hA']
    have mn : m8 (iand (A (-x)) (ior (B k) S)) := m8_and' mm
    have hxe := ed_out hw hr hk he (by omega)
    refine ⟨⟨h1, ?_, ?_, h4, h5⟩, rfl⟩
    · intro e e1 e2
      by_cases c : e = -x
      · subst c
        have he' : Ed P f t k (- -x) S := by rw [Int.neg_neg]; exact he
        refine ⟨⟨k, S, hk.1, hk.2, s1, he'⟩, by rw [up_s]; exact mn, fun v hv q => ?_⟩
        rw [up_s, bt_iand, bt_ior] at q
        cases ea : bt (A (-x)) v
        · by_cases ca : A (-x) = -1
          · rw [bt_m1' ca hv] at ea; cases ea
          · exact (h2 (-x) (by omega) ca).2.2 v hv ea
        · rw [ea, Bool.true_and, Bool.or_eq_false_iff] at q
          exact ⟨(s3 v hv q.1).1, k, S, hk.1, hk.2, (s3 v hv q.1).2, he', q.2⟩
      · rw [up_o c] at e2 ⊢
        exact h2 e e1 e2
    · intro a y T a1 a2 a3 a4 a5
      have lesA : ∀ e v, bt (A e) v = false → bt (up A (-x) (iand (A (-x)) (ior (B k) S)) e) v = false := by
        intro e v q
        by_cases c : e = -x
        · subst c; rw [up_s, bt_iand, q, Bool.false_and]
        · rw [up_o c]; exact q
      have nelA : ∀ e, A e ≠ -1 → up A (-x) (iand (A (-x)) (ior (B k) S)) e ≠ -1 := by
        intro e q
        by_cases c : e = -x
        · subst c; rw [up_s]; exact m8_ne mn
        · rw [up_o c]; exact q
      by_cases c : a = k ∧ y = x ∧ T = S
      · obtain ⟨rfl, rfl, rfl⟩ := c
        refine ⟨fun z => absurd z hx, fun _ => ⟨by rw [up_s]; exact m8_ne mn, fun v hv q1 q2 => ?_⟩⟩
        rw [up_s, bt_iand, bt_ior, q1, q2]; simp
      · have := h3 a y T a1 a2 (by
          rcases a3 with q | ⟨q, q2 | q2⟩
          · exact Or.inl q
          · exact Or.inr ⟨q, q2⟩
          · exact absurd ⟨q, q2⟩ c) a4 a5
        exact ⟨this.1, fun z => ⟨nelA _ (this.2 z).1, fun v hv q1 q2 => lesA _ v ((this.2 z).2 v hv q1 q2)⟩⟩
/-- all of k's edges are followed: on to the next -/
theorem FI.next (h : FI P f t st B A k E) (hE : B k = -1 ∨ ∀ x S, Ed P f t k x S → E x S) : FI P f t st B A (k + 1) (fun _ _ => False) := by
  obtain ⟨h1, h2, h3, h4, h5⟩ := h
  refine ⟨h1, h2, fun a x S a1 a2 a3 a4 a5 => ?_, h4, h5⟩
  rcases a3 with q | ⟨-, q⟩
  · by_cases c : a = k
    · subst c
      rcases hE with hE | hE
      · exact absurd hE a4
      · exact h3 a x S a1 a2 (Or.inr ⟨rfl, hE x S a5⟩) a4 a5
    · exact h3 a x S a1 a2 (Or.inl (by omega)) a4 a5
  · exact q.elim
theorem FI.first (hr : Rg P f t) (hst : m8 st) {B A : Int → Int} (hf : B f = st) (hB : ∀ k, f < k → k ≤ t → B k = -1) (hA : ∀ e, (e = 1 ∨ e = 2 ∨ e = 4 ∨ e = 8) → A e = -1) : FI P f t st B A f (fun _ _ => False) := by
  refine ⟨fun x x1 x2 x3 => ?_, fun e e1 e2 => absurd (hA e e1) e2, fun a x S a1 a2 a3 => ?_, fun j x j1 j2 j3 j4 j5 j6 => absurd (hB x (by omega) j3) j6, by rw [hf]; exact ⟨m8_ne hst, fun _ _ q => q⟩⟩
  · by_cases c : x = f
    · subst c
      refine ⟨Rw.base, by rw [hf]; exact hst, fun v hv q => ⟨by rw [hf] at q; exact q, Rw.base⟩⟩
    · exact absurd (hB x (by omega) x2) x3
  · rcases a3 with q | ⟨-, q⟩
    · omega
    · exact q.elim
theorem FI.last (hw : WF P) (hr : Rg P f t) (h : FI P f t st B A (t + 1) (fun _ _ => False)) : FS P f t st B A := by
  obtain ⟨h1, h2, h3, h4, h5⟩ := h
  have cl : ∀ a x S, f ≤ a → a ≤ t → B a ≠ -1 → Ed P f t a x S → ClO B A a x S := fun a x S a1 a2 a3 a4 => h3 a x S a1 a2 (Or.inl (by omega)) a3 a4
  have rA : ∀ x, Rw P f t wA x → B x ≠ -1 := fun x hx => hx (fun y => B y ≠ -1) h5.1 (fun a x S a1 a2 q he hx _ => ((cl a x S a1 a2 q he).1 hx).1)
  have rV : ∀ v, v < 8 → bt st v = false → ∀ x, Rw P f t (wV v) x → B x ≠ -1 ∧ bt (B x) v = false := fun v hv hs x hx => hx (fun y => B y ≠ -1 ∧ bt (B y) v = false) ⟨h5.1, h5.2 v hv hs⟩ (fun a x S a1 a2 q he hx hS => ⟨((cl a x S a1 a2 q.1 he).1 hx).1, ((cl a x S a1 a2 q.1 he).1 hx).2 v hv q.2 hS⟩)
  refine ⟨fun k k1 k2 => ?_, fun e he => ?_⟩
  · by_cases c : B k = -1
    · exact Or.inl ⟨c, fun q => rA k q c⟩
    · obtain ⟨a, b, d⟩ := h1 k k1 k2 c
      exact Or.inr ⟨a, b, fun v hv => ⟨d v hv, fun q => (rV v hv q.1 k q.2).2⟩⟩
  · by_cases c : A e = -1
    · refine Or.inl ⟨c, ?_⟩
      rintro ⟨k, S, k1, k2, k3, k4⟩
      have := ((cl k (-e) S k1 k2 (rA k k3) k4).2 (by omega)).1
      rw [Int.neg_neg] at this
      exact this c
    · obtain ⟨a, b, d⟩ := h2 e he c
      refine Or.inr ⟨a, b, fun v hv => ⟨d v hv, ?_⟩⟩
      rintro ⟨q, k, S, k1, k2, k3, k4, k5⟩
      obtain ⟨g1, g2⟩ := rV v hv q k k3
      have := ((cl k (-e) S k1 k2 g1 k4).2 (by omega)).2 v hv g2 k5
      rwa [Int.neg_neg] at this
end F
