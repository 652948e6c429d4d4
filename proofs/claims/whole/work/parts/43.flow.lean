/-! Data flow: edges, what is reached, what is live -/
/-- statements other than if and loop: P 20 k the sum of its exits, P 21 (16 k + e) what it sets by exit e; P 10 k what it reads -/
def Ed (P : Pg) (f t k x S : Int) : Prop := ((P 1 k = 5 ∨ P 1 k = 6) ∧ S = 0 ∧ (x = en P f t k 0 ∨ x = en P f t k 1)) ∨ (P 1 k ≠ 5 ∧ P 1 k ≠ 6 ∧ ∃ e, (e = 1 ∨ e = 2 ∨ e = 4 ∨ e = 8) ∧ iand (P 20 k) e ≠ 0 ∧ x = tg P f t k e ∧ S = P 21 (16 * k + e))
/-- a region: from f to t, whole statements of one block -/
def Rg (P : Pg) (f t : Int) : Prop := 0 ≤ f ∧ f ≤ t ∧ t < P 0 0 ∧ ∀ k, f ≤ k → k ≤ t → P 3 k ≤ t + 1
theorem bh_cases {P : Pg} (h : WF P) {f t : Int} (hf : 0 ≤ f) (ht : t < P 0 0) : ∀ (n : Nat) (k : Int), 0 ≤ k → k < P 0 0 → bh P f t n k ≠ -1 → (∃ a, 0 ≤ a ∧ a ≤ k ∧ k < P 3 a ∧ bh P f t n k = P 3 a ∧ P 3 a ≤ t ∧ P 2 (P 3 a) = P 2 a ∧ P 4 (P 3 a) = P 4 a) ∨ (P 1 (bh P f t n k) = 6 ∧ f ≤ bh P f t n k ∧ bh P f t n k < k ∧ k < P 3 (bh P f t n k)) := by
  intro n
  induction n with
  | zero => intro k _ _ h; exact absurd rfl h
  | succ n ih =>
    intro k h0 h1 hne
    have w1 := h.pr h0 h1
    have w2 := h.af h0 h1
    unfold bh at hne ⊢
    by_cases c1 : P 3 k ≤ t ∧ P 2 (P 3 k) = P 2 k ∧ P 4 (P 3 k) = P 4 k
    · rw [if_pos c1]
      exact Or.inl ⟨k, h0, by omega, by omega, rfl, c1.1, c1.2.1, c1.2.2⟩
    · rw [if_neg c1] at hne ⊢
      by_cases c2 : P 2 k < f ∨ P 2 k < 0
      · rw [if_pos c2] at hne; exact absurd rfl hne
      · rw [if_neg c2] at hne ⊢
        have w3 := h.up h0 h1 (by omega)
        by_cases c3 : P 1 (P 2 k) = 6
        · rw [if_pos c3]
          exact Or.inr ⟨c3, by omega, by omega, by omega⟩
        · rw [if_neg c3] at hne ⊢
          rcases ih (P 2 k) (by omega) (by omega) hne with ⟨a, q1, q2, q3, q4⟩ | ⟨q1, q2, q3, q4⟩
          · refine Or.inl ⟨a, q1, by omega, ?_, q4⟩
            by_cases e : a = P 2 k
            · rw [e]; omega
            · have := h.ins (j := a) (k := P 2 k) q1 (by omega) q3 (by omega)
              omega
          · refine Or.inr ⟨q1, q2, by omega, ?_⟩
            have := h.ins (j := bh P f t n (P 2 k)) (k := P 2 k) (by omega) q3 q4 (by omega)
            omega
theorem la_cases {P : Pg} (h : WF P) {f : Int} (hf : 0 ≤ f) : ∀ (n : Nat) (k u : Int), 0 ≤ k → k < P 0 0 → u < k → (0 ≤ u → k < P 3 u) → la P f n u ≠ -1 → (P 1 (la P f n u) = 6 ∧ f ≤ la P f n u ∧ la P f n u < k ∧ k < P 3 (la P f n u)) := by
  intro n
  induction n with
  | zero => intro k u _ _ _ _ h; exact absurd rfl h
  | succ n ih =>
    intro k u h0 h1 h2 h3 hne
    unfold la at hne ⊢
    by_cases c1 : u < f ∨ u < 0
    · rw [if_pos c1] at hne; exact absurd rfl hne
    · rw [if_neg c1] at hne ⊢
      by_cases c2 : P 1 u = 6
      · rw [if_pos c2]; exact ⟨c2, by omega, h2, h3 (by omega)⟩
      · rw [if_neg c2] at hne ⊢
        have w1 := h.pr (k := u) (by omega) (by omega)
        refine ih k (P 2 u) h0 h1 (by omega) (fun q => ?_) hne
        have := h.up (k := u) (by omega) (by omega) q
        have := h3 (by omega)
        omega
/-- where an edge may lead: within, forward; or back to a loop around -/
def Fw (P : Pg) (f t k x : Int) : Prop := (f ≤ x ∧ x ≤ t) ∧ ((x ≤ k ∧ P 1 x = 6 ∧ (x = k ∨ (x < k ∧ k < P 3 x))) ∨ (k < x ∧ ∀ j, f ≤ j → j < x → x < P 3 j → (j = k ∨ (j < k ∧ k < P 3 j))))
theorem fw_bh {P : Pg} (h : WF P) {f t : Int} (hr : Rg P f t) {n : Nat} {k a0 : Int} (hk : f ≤ k ∧ k ≤ t) (ha : f ≤ a0) (hka : a0 = k ∨ (a0 < k ∧ k < P 3 a0)) (hne : bh P f t n a0 ≠ -1) : Fw P f t k (bh P f t n a0) := by
  obtain ⟨r1, r2, r3, r4⟩ := hr
  have hup : ∀ a, 0 ≤ a → a ≤ a0 → a0 < P 3 a → a ≤ k ∧ k < P 3 a := by
    intro a q1 q2 q3
    rcases hka with rfl | ⟨e1, e2⟩
    · exact ⟨q2, q3⟩
    · by_cases e : a = a0
      · subst e; omega
      · have := h.ins (j := a) (k := a0) q1 (by omega) q3 (by omega)
        omega
  rcases bh_cases h r1 r3 n a0 (by omega) (by omega) hne with ⟨a, q1, q2, q3, q4, q5, q6, -⟩ | ⟨q1, q2, q3, q4⟩
  · obtain ⟨u1, u2⟩ := hup a q1 q2 q3
    rw [q4]
    refine ⟨by omega, Or.inr ⟨by omega, fun j z1 z2 z3 => ?_⟩⟩
    have y1 := h.in1 (j := j) (k := P 3 a) (by omega) z2 z3 (by omega)
    have y2 := h.pr (k := a) q1 (by omega)
    rw [q6] at y1
    have y3 := h.up (k := a) q1 (by omega) (by omega)
    by_cases e : j = P 2 a
    · rw [e]; omega
    · have := h.ins (j := j) (k := P 2 a) (by omega) (by omega) (by omega) (by omega)
      omega
  · obtain ⟨u1, u2⟩ := hup (bh P f t n a0) (by omega) (by omega) q4
    exact ⟨by omega, Or.inl ⟨by omega, q1, by omega⟩⟩
theorem fw_ed {P : Pg} (h : WF P) {f t : Int} (hr : Rg P f t) {k x S : Int} (hk : f ≤ k ∧ k ≤ t) (he : Ed P f t k x S) (hx : 0 ≤ x) : Fw P f t k x := by
  have hr' := hr
  obtain ⟨r1, r2, r3, r4⟩ := hr
  have w1 := h.pr (k := k) (by omega) (by omega)
  have w2 := h.af (k := k) (by omega) (by omega)
  have hn := h.n0
  have hla : ∀ (n : Nat), la P f n (P 2 k) ≠ -1 → (P 1 (la P f n (P 2 k)) = 6 ∧ f ≤ la P f n (P 2 k) ∧ la P f n (P 2 k) < k ∧ k < P 3 (la P f n (P 2 k))) := fun n q => la_cases h r1 n k (P 2 k) (by omega) (by omega) (by omega) (fun z => by have := h.up (k := k) (by omega) (by omega) z; omega) q
  have hen : ∀ s, x = en P f t k s → (P 1 k = 5 ∨ P 1 k = 6) → Fw P f t k x := by
    intro s e hkd
    unfold en at e
    by_cases c1 : fo P k s 40 (k + 1) ≠ -1
    · rw [if_pos c1] at e
      rcases fo_spec (P := P) (k := k) (s := s) 40 (k + 1) (by omega) with ⟨q1, _⟩ | ⟨q1, q2, q3, -, -⟩
      · exact absurd q1 c1
      · rw [← e] at q1 q2 q3
        have := r4 k hk.1 hk.2
        refine ⟨by omega, Or.inr ⟨by omega, fun j z1 z2 z3 => ?_⟩⟩
        have := h.in1 (j := j) (k := x) (by omega) z2 z3 (by omega)
        omega
    · rw [if_neg c1] at e
      by_cases c2 : P 1 k = 6 ∧ s = 0
      · rw [if_pos c2] at e
        subst e
        exact ⟨hk, Or.inl ⟨by omega, c2.1, Or.inl rfl⟩⟩
      · rw [if_neg c2] at e
        subst e
        exact fw_bh h hr' hk hk.1 (Or.inl rfl) (by omega)
  rcases he with ⟨a, -, b | b⟩ | ⟨-, -, e, he, -, b, -⟩
  · exact hen 0 b a
  · exact hen 1 b a
  · unfold tg at b
    by_cases c1 : e = 1
    · rw [if_pos c1] at b
      subst b
      exact fw_bh h hr' hk hk.1 (Or.inl rfl) (by omega)
    · rw [if_neg c1] at b
      by_cases c2 : e = 8 ∨ la P f 40 (P 2 k) = -1
      · rw [if_pos c2] at b; omega
      · rw [if_neg c2] at b
        obtain ⟨l1, l2, l3, l4⟩ := hla 40 (by omega)
        by_cases c3 : e = 2
        · rw [if_pos c3] at b
          subst b
          exact fw_bh h hr' hk l2 (Or.inr ⟨l3, l4⟩) (by omega)
        · rw [if_neg c3] at b
          subst b
          exact ⟨by omega, Or.inl ⟨by omega, l1, Or.inr ⟨l3, l4⟩⟩⟩
/-- who leaves leaves by an exit -/
theorem ed_out {P : Pg} (h : WF P) {f t : Int} (hr : Rg P f t) {k x S : Int} (hk : f ≤ k ∧ k ≤ t) (he : Ed P f t k x S) (hx : x < 0) : x = -1 ∨ x = -2 ∨ x = -4 ∨ x = -8 := by
  obtain ⟨r1, r2, r3, r4⟩ := hr
  have w1 := h.pr (k := k) (by omega) (by omega)
  have w2 := h.af (k := k) (by omega) (by omega)
  have hn := h.n0
  have hb : ∀ a, 0 ≤ a → a < P 0 0 → bh P f t 40 a < 0 → bh P f t 40 a = -1 := fun a q1 q2 q3 => by have := bh_rng h r1 r3 40 a q1 q2; omega
  have hl := la_rng h r1 40 (P 2 k) (by omega)
  have hen : ∀ s, x = en P f t k s → x = -1 := by
    intro s e
    unfold en at e
    by_cases c1 : fo P k s 40 (k + 1) ≠ -1
    · rw [if_pos c1] at e
      rcases fo_spec (P := P) (k := k) (s := s) 40 (k + 1) (by omega) with ⟨q1, _⟩ | ⟨q1, q2, q3, -, -⟩
      · exact absurd q1 c1
      · omega
    · rw [if_neg c1] at e
      by_cases c2 : P 1 k = 6 ∧ s = 0
      · rw [if_pos c2] at e; omega
      · rw [if_neg c2] at e
        have := hb k (by omega) (by omega) (by omega)
        omega
  rcases he with ⟨a, -, b | b⟩ | ⟨-, -, e, he, -, b, -⟩
  · exact Or.inl (hen 0 b)
  · exact Or.inl (hen 1 b)
  · unfold tg at b
    by_cases c1 : e = 1
    · rw [if_pos c1] at b
      have := hb k (by omega) (by omega) (by omega)
      omega
    · rw [if_neg c1] at b
      by_cases c2 : e = 8 ∨ la P f 40 (P 2 k) = -1
      · rw [if_pos c2] at b; omega
      · rw [if_neg c2] at b
        by_cases c3 : e = 2
        · rw [if_pos c3] at b
          have := hb (la P f 40 (P 2 k)) (by omega) (by omega) (by omega)
          omega
        · rw [if_neg c3] at b; omega
/-- reached from f, by edges whose sets W allows -/
def Rw (P : Pg) (f t : Int) (W : Int → Prop) (k : Int) : Prop := ∀ T : Int → Prop, T f → (∀ a x S, f ≤ a → a ≤ t → T a → Ed P f t a x S → 0 ≤ x → W S → T x) → T k
def wA : Int → Prop := fun _ => True
def wV (v : Nat) : Int → Prop := fun S => bt S v = false
theorem Rw.base {P : Pg} {f t : Int} {W : Int → Prop} : Rw P f t W f := fun _ h _ => h
theorem Rw.step {P : Pg} {f t : Int} {W : Int → Prop} {a x S : Int} (h1 : f ≤ a) (h2 : a ≤ t) (h : Rw P f t W a) (he : Ed P f t a x S) (hx : 0 ≤ x) (hW : W S) : Rw P f t W x := fun T b s => s a x S h1 h2 (h T b s) he hx hW
/-- read on a way from k on before it is set -/
def Lv (P : Pg) (f t : Int) (v : Nat) (k : Int) : Prop := ∀ T : Int → Prop, (∀ a, f ≤ a → a ≤ t → bt (P 10 a) v = true → T a) → (∀ a x S, f ≤ a → a ≤ t → Ed P f t a x S → 0 ≤ x → bt S v = false → T x → T a) → T k
theorem Lv.base {P : Pg} {f t : Int} {v : Nat} {k : Int} (h1 : f ≤ k) (h2 : k ≤ t) (h : bt (P 10 k) v = true) : Lv P f t v k := fun _ b _ => b k h1 h2 h
theorem Lv.step {P : Pg} {f t : Int} {v : Nat} {a x S : Int} (h1 : f ≤ a) (h2 : a ≤ t) (he : Ed P f t a x S) (hx : 0 ≤ x) (hS : bt S v = false) (h : Lv P f t v x) : Lv P f t v a := fun T b s => s a x S h1 h2 he hx hS (h T b s)
/-- the two ways of asking what a region needs are one -/
theorem Lv_iff {P : Pg} (hw : WF P) {f t : Int} (hr : Rg P f t) {v : Nat} : Lv P f t v f ↔ ∃ k, f ≤ k ∧ k ≤ t ∧ Rw P f t (wV v) k ∧ bt (P 10 k) v = true := by
  constructor
  · intro h
    refine h (fun k => Rw P f t (wV v) k → ∃ k, f ≤ k ∧ k ≤ t ∧ Rw P f t (wV v) k ∧ bt (P 10 k) v = true) (fun a h1 h2 h3 h4 => ⟨a, h1, h2, h4, h3⟩) (fun a x S h1 h2 he hx hS ih hR => ih (hR.step h1 h2 he hx hS)) Rw.base
  · rintro ⟨k, h1, h2, h3, h4⟩
    exact (h3 (fun k => Lv P f t v k → Lv P f t v f) id (fun a x S q1 q2 ih he hx hW hl => ih (hl.step q1 q2 he hx hW))) (Lv.base h1 h2 h4)
/-- what one pass, or any way of counting, must find: B before each statement (-1: not reached), A by each exit -/
def FS (P : Pg) (f t st : Int) (B A : Int → Int) : Prop :=
  (∀ k, f ≤ k → k ≤ t → (B k = -1 ∧ ¬ Rw P f t wA k) ∨ (Rw P f t wA k ∧ m8 (B k) ∧ ∀ v, v < 8 → (bt (B k) v = false ↔ (bt st v = false ∧ Rw P f t (wV v) k)))) ∧
  (∀ e, (e = 1 ∨ e = 2 ∨ e = 4 ∨ e = 8) → (A e = -1 ∧ ¬ ∃ k S, f ≤ k ∧ k ≤ t ∧ Rw P f t wA k ∧ Ed P f t k (-e) S) ∨ ((∃ k S, f ≤ k ∧ k ≤ t ∧ Rw P f t wA k ∧ Ed P f t k (-e) S) ∧ m8 (A e) ∧ ∀ v, v < 8 → (bt (A e) v = false ↔ (bt st v = false ∧ ∃ k S, f ≤ k ∧ k ≤ t ∧ Rw P f t (wV v) k ∧ Ed P f t k (-e) S ∧ bt S v = false))))
def LvS (P : Pg) (f t : Int) (L : Int → Int) : Prop := ∀ k, f ≤ k → k ≤ t → m8 (L k) ∧ ∀ v, v < 8 → (bt (L k) v = true ↔ Lv P f t v k)
theorem bt_iffT {a b : Bool} (h : a = true ↔ b = true) : a = b := by cases a <;> cases b <;> simp_all
theorem bt_iffF {a b : Bool} (h : a = false ↔ b = false) : a = b := by cases a <;> cases b <;> simp_all
theorem LvS.eq {P : Pg} {f t : Int} {L L' : Int → Int} (h : LvS P f t L) (h' : LvS P f t L') {k : Int} (h1 : f ≤ k) (h2 : k ≤ t) : L k = L' k := m8_ext (h k h1 h2).1 (h' k h1 h2).1 (fun v hv => bt_iffT (((h k h1 h2).2 v hv).trans ((h' k h1 h2).2 v hv).symm))
theorem FS.eq {P : Pg} {f t st : Int} {B A B' A' : Int → Int} (h : FS P f t st B A) (h' : FS P f t st B' A') {k : Int} (h1 : f ≤ k) (h2 : k ≤ t) : B k = B' k := by
  rcases h.1 k h1 h2 with ⟨a, b⟩ | ⟨a, b, c⟩ <;> rcases h'.1 k h1 h2 with ⟨a', b'⟩ | ⟨a', b', c'⟩
  · rw [a, a']
  · exact absurd a' b
  · exact absurd a b'
  · exact m8_ext b b' (fun v hv => bt_iffF ((c v hv).trans (c' v hv).symm))
theorem FS.eqA {P : Pg} {f t st : Int} {B A B' A' : Int → Int} (h : FS P f t st B A) (h' : FS P f t st B' A') {e : Int} (he : e = 1 ∨ e = 2 ∨ e = 4 ∨ e = 8) : A e = A' e := by
  rcases h.2 e he with ⟨a, b⟩ | ⟨a, b, c⟩ <;> rcases h'.2 e he with ⟨a', b'⟩ | ⟨a', b', c'⟩
  · rw [a, a']
  · exact absurd a' b
  · exact absurd a b'
  · exact m8_ext b b' (fun v hv => bt_iffF ((c v hv).trans (c' v hv).symm))
