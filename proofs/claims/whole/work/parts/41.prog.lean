/-! The program as rows of numbers: P 0 0 how many; P 1 kind, P 2 parent, P 3 behind all inside, P 4 side -/
abbrev Pg : Type := Nat → Int → Int
def WF (P : Pg) : Prop := 0 ≤ P 0 0 ∧ P 0 0 ≤ 40 ∧ ∀ k, 0 ≤ k → k < P 0 0 →
  (-1 ≤ P 2 k ∧ P 2 k < k) ∧ (k < P 3 k ∧ P 3 k ≤ P 0 0) ∧ (0 ≤ P 2 k → P 3 k ≤ P 3 (P 2 k) ∧ (P 1 (P 2 k) = 5 ∨ P 1 (P 2 k) = 6)) ∧ (∀ j, 0 ≤ j → P 2 k < j → j < k → P 3 j ≤ k) ∧
  (0 ≤ P 1 k ∧ P 1 k ≤ 7) ∧ (P 4 k = 0 ∨ P 4 k = 1) ∧ (P 2 k < 0 → P 4 k = 0) ∧ (0 ≤ P 2 k → P 1 (P 2 k) = 6 → P 4 k = 0)
section W
variable {P : Pg}
theorem WF.n0 (h : WF P) : 0 ≤ P 0 0 ∧ P 0 0 ≤ 40 := ⟨h.1, h.2.1⟩
theorem WF.pr (h : WF P) {k : Int} (h0 : 0 ≤ k) (h1 : k < P 0 0) : -1 ≤ P 2 k ∧ P 2 k < k := (h.2.2 k h0 h1).1
theorem WF.af (h : WF P) {k : Int} (h0 : 0 ≤ k) (h1 : k < P 0 0) : k < P 3 k ∧ P 3 k ≤ P 0 0 := (h.2.2 k h0 h1).2.1
theorem WF.up (h : WF P) {k : Int} (h0 : 0 ≤ k) (h1 : k < P 0 0) (hp : 0 ≤ P 2 k) : P 3 k ≤ P 3 (P 2 k) := ((h.2.2 k h0 h1).2.2.1 hp).1
theorem WF.pk (h : WF P) {k : Int} (h0 : 0 ≤ k) (h1 : k < P 0 0) (hp : 0 ≤ P 2 k) : P 1 (P 2 k) = 5 ∨ P 1 (P 2 k) = 6 := ((h.2.2 k h0 h1).2.2.1 hp).2
theorem WF.bt (h : WF P) {k j : Int} (h0 : 0 ≤ k) (h1 : k < P 0 0) (hj : 0 ≤ j) (h2 : P 2 k < j) (h3 : j < k) : P 3 j ≤ k := (h.2.2 k h0 h1).2.2.2.1 j hj h2 h3
theorem WF.kd (h : WF P) {k : Int} (h0 : 0 ≤ k) (h1 : k < P 0 0) : 0 ≤ P 1 k ∧ P 1 k ≤ 7 := (h.2.2 k h0 h1).2.2.2.2.1
theorem WF.sd (h : WF P) {k : Int} (h0 : 0 ≤ k) (h1 : k < P 0 0) : P 4 k = 0 ∨ P 4 k = 1 := (h.2.2 k h0 h1).2.2.2.2.2.1
theorem WF.rt (h : WF P) {k : Int} (h0 : 0 ≤ k) (h1 : k < P 0 0) (hp : P 2 k < 0) : P 4 k = 0 := (h.2.2 k h0 h1).2.2.2.2.2.2.1 hp
theorem WF.lp (h : WF P) {k : Int} (h0 : 0 ≤ k) (h1 : k < P 0 0) (hp : 0 ≤ P 2 k) (hl : P 1 (P 2 k) = 6) : P 4 k = 0 := (h.2.2 k h0 h1).2.2.2.2.2.2.2 hp hl
/-- what stands inside j has its parent there -/
theorem WF.in1 (h : WF P) {j k : Int} (hj : 0 ≤ j) (h1 : j < k) (h2 : k < P 3 j) (hk : k < P 0 0) : j ≤ P 2 k := by
  refine Int.not_lt.mp fun q => ?_
  have := h.bt (k := k) (j := j) (by omega) hk hj q h1
  omega
theorem WF.in2 (h : WF P) {j : Int} (hj : 0 ≤ j) : ∀ (n : Nat) (k : Int), k.toNat ≤ n → j < k → k < P 3 j → k < P 0 0 → P 3 k ≤ P 3 j := by
  intro n
  induction n with
  | zero => intro k hn h1; omega
  | succ n ih =>
    intro k hn h1 h2 hk
    have h3 := h.in1 hj h1 h2 hk
    have h4 := h.pr (k := k) (by omega) hk
    have h5 := h.up (k := k) (by omega) hk (by omega)
    by_cases h6 : P 2 k = j
    · rw [h6] at h5; exact h5
    · have := ih (P 2 k) (by omega) (by omega) (by omega) (by omega)
      omega
theorem WF.ins (h : WF P) {j k : Int} (hj : 0 ≤ j) (h1 : j < k) (h2 : k < P 3 j) (hk : k < P 0 0) : P 3 k ≤ P 3 j := h.in2 hj k.toNat k (Nat.le_refl _) h1 h2 hk
/-- the first inside, and what comes behind one that is inside, are of the block's parent -/
theorem WF.c1 (h : WF P) {k : Int} (hk : 0 ≤ k) (h1 : k + 1 < P 3 k) (h2 : k < P 0 0) : P 2 (k + 1) = k := by
  have a := h.af hk h2
  have := h.in1 (k := k + 1) hk (by omega) h1 (by omega)
  have := h.pr (k := k + 1) (by omega) (by omega)
  omega
theorem WF.c2 (h : WF P) {k c : Int} (hk : 0 ≤ k) (hk2 : k < P 0 0) (hc : P 2 c = k) (hc0 : 0 ≤ c) (hc1 : c < P 0 0) (h1 : P 3 c < P 3 k) : P 2 (P 3 c) = k := by
  have a := h.af hk hk2
  have b := h.af hc0 hc1
  have c1 := h.pr hc0 hc1
  have x1 := h.in1 (k := P 3 c) hk (by omega) h1 (by omega)
  have x2 := h.pr (k := P 3 c) (by omega) (by omega)
  have x3 := h.up (k := P 3 c) (by omega) (by omega) (by omega)
  have x4 := h.af (k := P 3 c) (by omega) (by omega)
  by_cases e : P 2 (P 3 c) = k
  · exact e
  · exfalso
    by_cases e1 : P 2 (P 3 c) = c
    · rw [e1] at x3; omega
    · by_cases e2 : c < P 2 (P 3 c)
      · have := h.ins (j := c) (k := P 2 (P 3 c)) hc0 e2 x2.2 (by omega)
        omega
      · have := h.bt (k := c) (j := P 2 (P 3 c)) hc0 hc1 (by omega) (by omega) (by omega)
        omega
end W
/-! where a run goes on -/
/-- behind a statement, among those from f to t; -1: it leaves them -/
def bh (P : Pg) (f t : Int) : Nat → Int → Int
  | 0, _ => -1
  | n + 1, a => if P 3 a ≤ t ∧ P 2 (P 3 a) = P 2 a ∧ P 4 (P 3 a) = P 4 a then P 3 a else if P 2 a < f ∨ P 2 a < 0 then -1 else if P 1 (P 2 a) = 6 then P 2 a else bh P f t n (P 2 a)
/-- the innermost loop from u up, not before f; -1: none -/
def la (P : Pg) (f : Int) : Nat → Int → Int
  | 0, _ => -1
  | n + 1, u => if u < f ∨ u < 0 then -1 else if P 1 u = 6 then u else la P f n (P 2 u)
/-- the first of side s inside k, from c on; -1: none -/
def fo (P : Pg) (k s : Int) : Nat → Int → Int
  | 0, _ => -1
  | n + 1, c => if c < P 3 k then (if P 2 c = k ∧ P 4 c = s then c else fo P k s n (c + 1)) else -1
def tg (P : Pg) (f t k e : Int) : Int := if e = 1 then bh P f t 40 k else if e = 8 ∨ la P f 40 (P 2 k) = -1 then -e else if e = 2 then bh P f t 40 (la P f 40 (P 2 k)) else la P f 40 (P 2 k)
def en (P : Pg) (f t k s : Int) : Int := if fo P k s 40 (k + 1) ≠ -1 then fo P k s 40 (k + 1) else if P 1 k = 6 ∧ s = 0 then k else bh P f t 40 k
section B
variable {P : Pg}
/-- enough turns: the parent is before -/
theorem bh_fuel (h : WF P) {f t : Int} : ∀ (n : Nat) (a : Int) (m : Nat), 0 ≤ a → a < P 0 0 → a.toNat < n → a.toNat < m → bh P f t n a = bh P f t m a := by
  intro n
  induction n with
  | zero => intro a m _ _ h; omega
  | succ n ih =>
    intro a m h0 h1 hn hm
    obtain ⟨m, rfl⟩ : ∃ q, m = q + 1 := ⟨m - 1, by omega⟩
    show (if _ then _ else if _ then _ else if _ then _ else bh P f t n (P 2 a)) = (if _ then _ else if _ then _ else if _ then _ else bh P f t m (P 2 a))
    by_cases hp : P 2 a < f ∨ P 2 a < 0
    · rw [if_pos hp, if_pos hp]
    · have := h.pr h0 h1
      rw [ih (P 2 a) m (by omega) (by omega) (by omega) (by omega)]
theorem la_fuel (h : WF P) {f : Int} : ∀ (n : Nat) (a : Int) (m : Nat), a < P 0 0 → a.toNat < n → a.toNat < m → la P f n a = la P f m a := by
  intro n
  induction n with
  | zero => intro a m _ h; omega
  | succ n ih =>
    intro a m h1 hn hm
    obtain ⟨m, rfl⟩ : ∃ q, m = q + 1 := ⟨m - 1, by omega⟩
    show (if _ then _ else if _ then _ else la P f n (P 2 a)) = (if _ then _ else if _ then _ else la P f m (P 2 a))
    by_cases hp : a < f ∨ a < 0
    · rw [if_pos hp, if_pos hp]
    · have := h.pr (k := a) (by omega) h1
      by_cases h2 : (P 2 a).toNat < n ∧ (P 2 a).toNat < m
      · rw [ih (P 2 a) m (by omega) h2.1 h2.2]
      · have : P 2 a = -1 := by omega
        rw [this]
        cases n <;> cases m <;> first | rfl | (simp [la])
/-- where 'behind' may lead -/
theorem bh_rng (h : WF P) {f t : Int} (hf : 0 ≤ f) (ht : t < P 0 0) : ∀ (n : Nat) (a : Int), 0 ≤ a → a < P 0 0 → (bh P f t n a = -1 ∨ (0 ≤ bh P f t n a ∧ bh P f t n a < P 0 0)) := by
  intro n
  induction n with
  | zero => intro a _ _; exact Or.inl rfl
  | succ n ih =>
    intro a h0 h1
    have x1 := h.pr h0 h1
    have x2 := h.af h0 h1
    unfold bh
    by_cases c1 : P 3 a ≤ t ∧ P 2 (P 3 a) = P 2 a ∧ P 4 (P 3 a) = P 4 a
    · rw [if_pos c1]; omega
    · rw [if_neg c1]
      by_cases c2 : P 2 a < f ∨ P 2 a < 0
      · rw [if_pos c2]; exact Or.inl rfl
      · rw [if_neg c2]
        by_cases c3 : P 1 (P 2 a) = 6
        · rw [if_pos c3]; omega
        · rw [if_neg c3]
          exact ih (P 2 a) (by omega) (by omega)
theorem la_rng (h : WF P) {f : Int} (hf : 0 ≤ f) : ∀ (n : Nat) (u : Int), u < P 0 0 → (la P f n u = -1 ∨ (f ≤ la P f n u ∧ la P f n u ≤ u ∧ P 1 (la P f n u) = 6)) := by
  intro n
  induction n with
  | zero => intro u _; exact Or.inl rfl
  | succ n ih =>
    intro u h1
    unfold la
    by_cases c1 : u < f ∨ u < 0
    · rw [if_pos c1]; exact Or.inl rfl
    · rw [if_neg c1]
      by_cases c2 : P 1 u = 6
      · rw [if_pos c2]; exact Or.inr ⟨by omega, by omega, c2⟩
      · rw [if_neg c2]
        have := h.pr (k := u) (by omega) h1
        rcases ih (P 2 u) (by omega) with q | q
        · exact Or.inl q
        · exact Or.inr ⟨q.1, by omega, q.2.2⟩
/-- what 'fo' finds -/
theorem fo_spec {k s : Int} : ∀ (n : Nat) (c : Int), P 3 k - c < n → (fo P k s n c = -1 ∧ ∀ x, c ≤ x → x < P 3 k → ¬ (P 2 x = k ∧ P 4 x = s)) ∨ (c ≤ fo P k s n c ∧ fo P k s n c < P 3 k ∧ P 2 (fo P k s n c) = k ∧ P 4 (fo P k s n c) = s ∧ ∀ x, c ≤ x → x < fo P k s n c → ¬ (P 2 x = k ∧ P 4 x = s)) := by
  intro n
  induction n with
  | zero =>
    intro c h
    exact Or.inl ⟨rfl, fun x h1 h2 => by omega⟩
  | succ n ih =>
    intro c h
    unfold fo
    by_cases c1 : c < P 3 k
    · rw [if_pos c1]
      by_cases c2 : P 2 c = k ∧ P 4 c = s
      · rw [if_pos c2]
        exact Or.inr ⟨by omega, c1, c2.1, c2.2, fun x h1 h2 => by omega⟩
      · rw [if_neg c2]
        rcases ih (c + 1) (by omega) with ⟨q1, q2⟩ | ⟨q1, q2, q3, q4, q5⟩
        · refine Or.inl ⟨q1, fun x h1 h2 => ?_⟩
          by_cases hx : x = c
          · subst hx; exact c2
          · exact q2 x (by omega) h2
        · refine Or.inr ⟨by omega, q2, q3, q4, fun x h1 h2 => ?_⟩
          by_cases hx : x = c
          · subst hx; exact c2
          · exact q5 x (by omega) h2
    · rw [if_neg c1]
      exact Or.inl ⟨rfl, fun x h1 h2 => by omega⟩
/-- who finds the same is the same -/
theorem fo_eq (h : WF P) {k s r : Int} (hk : 0 ≤ k) (hk2 : k < P 0 0) (hr : (r = -1 ∧ ∀ x, k < x → x < P 3 k → ¬ (P 2 x = k ∧ P 4 x = s)) ∨ (k < r ∧ r < P 3 k ∧ P 2 r = k ∧ P 4 r = s ∧ ∀ x, k < x → x < r → ¬ (P 2 x = k ∧ P 4 x = s))) : fo P k s 40 (k + 1) = r := by
  have a := h.af hk hk2
  have := h.n0
  rcases fo_spec (P := P) (k := k) (s := s) 40 (k + 1) (by omega) with ⟨q1, q2⟩ | ⟨q1, q2, q3, q4, q5⟩
  · rcases hr with ⟨e, _⟩ | ⟨e1, e2, e3, e4, _⟩
    · rw [q1, e]
    · exact absurd ⟨e3, e4⟩ (q2 r (by omega) e2)
  · rcases hr with ⟨e, e2⟩ | ⟨e1, e2, e3, e4, e5⟩
    · exact absurd ⟨q3, q4⟩ (e2 _ (by omega) q2)
    · by_cases z : fo P k s 40 (k + 1) < r
      · exact absurd ⟨q3, q4⟩ (e5 _ (by omega) z)
      · by_cases z2 : r < fo P k s 40 (k + 1)
        · exact absurd ⟨e3, e4⟩ (q5 r (by omega) z2)
        · omega
end B
