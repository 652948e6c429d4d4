/-! Regions of the same shape -/
/-- n statements from f on: whole ones, of one block -/
def RG (P : Pg) (f n : Int) : Prop := WF P ∧ 0 ≤ f ∧ 0 < n ∧ f + n ≤ P 0 0 ∧ (∀ x, 0 ≤ x → x < n → P 3 (f + x) ≤ f + n) ∧ ∀ x, 0 ≤ x → x < n → P 2 (f + x) < f → P 2 (f + x) = P 2 f ∧ P 4 (f + x) = P 4 f
/-- of the same shape -/
def Iso (P : Pg) (f : Int) (P' : Pg) (f' n : Int) : Prop := ∀ x, 0 ≤ x → x < n → P 1 (f + x) = P' 1 (f' + x) ∧ P 3 (f + x) - f = P' 3 (f' + x) - f' ∧ ((P 2 (f + x) < f ∧ P' 2 (f' + x) < f') ∨ (f ≤ P 2 (f + x) ∧ f' ≤ P' 2 (f' + x) ∧ P 2 (f + x) - f = P' 2 (f' + x) - f' ∧ P 4 (f + x) = P' 4 (f' + x)))
/-- the same place in both -/
def rl (f f' n x x' : Int) : Prop := (x < 0 ∧ x' = x) ∨ (f ≤ x ∧ x < f + n ∧ x' = x - f + f')
theorem Iso.symm {P P' : Pg} {f f' n : Int} (h : Iso P f P' f' n) : Iso P' f' P f n := fun x x0 x1 => by
  obtain ⟨a, b, c⟩ := h x x0 x1
  refine ⟨a.symm, b.symm, ?_⟩
  rcases c with c | c
  · exact Or.inl ⟨c.2, c.1⟩
  · exact Or.inr ⟨c.2.1, c.1, c.2.2.1.symm, c.2.2.2.symm⟩
section I
variable {P P' : Pg} {f f' n : Int}
theorem RG.rg (h : RG P f n) : Rg P f (f + n - 1) := ⟨h.2.1, by have := h.2.2.1; omega, by have := h.2.2.2.1; omega, fun k k0 k1 => by
  have := h.2.2.2.2.1 (k - f) (by omega) (by omega)
  rw [show f + (k - f) = k by omega] at this; omega⟩
theorem iso_bh (h : RG P f n) (h' : RG P' f' n) (hi : Iso P f P' f' n) : ∀ (m : Nat) (x : Int), 0 ≤ x → x < n → rl f f' n (bh P f (f + n - 1) m (f + x)) (bh P' f' (f' + n - 1) m (f' + x)) := by
  obtain ⟨hw, f0, n0, fn, r3, rt⟩ := h
  obtain ⟨hw', f0', n0', fn', r3', rt'⟩ := h'
  intro m
  induction m with
  | zero => intro x _ _; exact Or.inl ⟨by show (-1 : Int) < 0; omega, rfl⟩
  | succ m ih =>
    intro x x0 x1
    obtain ⟨i1, i3, i2⟩ := hi x x0 x1
    have a := hw.af (k := f + x) (by omega) (by omega)
    have a' := hw'.af (k := f' + x) (by omega) (by omega)
    have p := hw.pr (k := f + x) (by omega) (by omega)
    have p' := hw'.pr (k := f' + x) (by omega) (by omega)
    -- the condition for the next one
    have cond : (P 3 (f + x) ≤ f + n - 1 ∧ P 2 (P 3 (f + x)) = P 2 (f + x) ∧ P 4 (P 3 (f + x)) = P 4 (f + x)) ↔ (P' 3 (f' + x) ≤ f' + n - 1 ∧ P' 2 (P' 3 (f' + x)) = P' 2 (f' + x) ∧ P' 4 (P' 3 (f' + x)) = P' 4 (f' + x)) := by
      by_cases c : P 3 (f + x) ≤ f + n - 1
      · have y0 : 0 ≤ P 3 (f + x) - f := by omega
        have y1 : P 3 (f + x) - f < n := by omega
        obtain ⟨j1, j3, j2⟩ := hi (P 3 (f + x) - f) y0 y1
        rw [show f + (P 3 (f + x) - f) = P 3 (f + x) by omega, show f' + (P 3 (f + x) - f) = P' 3 (f' + x) by omega] at j2
        have ty := rt (P 3 (f + x) - f) y0 y1
        have ty' := rt' (P 3 (f + x) - f) y0 y1
        rw [show f + (P 3 (f + x) - f) = P 3 (f + x) by omega] at ty
        rw [show f' + (P 3 (f + x) - f) = P' 3 (f' + x) by omega] at ty'
        have tx := rt x x0 x1
        have tx' := rt' x x0 x1
        rcases i2 with ⟨u1, u2⟩ | ⟨u1, u2, u3, u4⟩
        · rcases j2 with ⟨v1, v2⟩ | ⟨v1, v2, v3, v4⟩
          · have q1 := tx u1; have q2 := tx' u2; have q3 := ty v1; have q4 := ty' v2
            constructor
            · intro _; exact ⟨by omega, by omega, by omega⟩
            · intro _; exact ⟨by omega, by omega, by omega⟩
          · constructor
            · intro z; omega
            · intro z; omega
        · rcases j2 with ⟨v1, v2⟩ | ⟨v1, v2, v3, v4⟩
          · constructor
            · intro z; omega
            · intro z; omega
          · constructor
            · intro z; exact ⟨by omega, by omega, by omega⟩
            · intro z; exact ⟨by omega, by omega, by omega⟩
      · constructor
        · intro z; omega
        · intro z; omega
    rw [bh, bh]
    by_cases c : P 3 (f + x) ≤ f + n - 1 ∧ P 2 (P 3 (f + x)) = P 2 (f + x) ∧ P 4 (P 3 (f + x)) = P 4 (f + x)
    · rw [if_pos c, if_pos (cond.mp c)]
      exact Or.inr ⟨by omega, by omega, by omega⟩
    · rw [if_neg c, if_neg (fun z => c (cond.mpr z))]
      rcases i2 with ⟨u1, u2⟩ | ⟨u1, u2, u3, u4⟩
      · rw [if_pos (Or.inl u1), if_pos (Or.inl u2)]
        exact Or.inl ⟨by omega, rfl⟩
      · rw [if_neg (show ¬ (P 2 (f + x) < f ∨ P 2 (f + x) < 0) by omega), if_neg (show ¬ (P' 2 (f' + x) < f' ∨ P' 2 (f' + x) < 0) by omega)]
        obtain ⟨j1, j3, j2⟩ := hi (P 2 (f + x) - f) (by omega) (by omega)
        rw [show f + (P 2 (f + x) - f) = P 2 (f + x) by omega, show f' + (P 2 (f + x) - f) = P' 2 (f' + x) by omega] at j1
        rw [j1]
        by_cases c6 : P' 1 (P' 2 (f' + x)) = 6
        · rw [if_pos c6, if_pos c6]
          exact Or.inr ⟨by omega, by omega, by omega⟩
        · rw [if_neg c6, if_neg c6]
          have := ih (P 2 (f + x) - f) (by omega) (by omega)
          rw [show f + (P 2 (f + x) - f) = P 2 (f + x) by omega, show f' + (P 2 (f + x) - f) = P' 2 (f' + x) by omega] at this
          exact this
theorem iso_la (h : RG P f n) (h' : RG P' f' n) (hi : Iso P f P' f' n) : ∀ (m : Nat) (u u' : Int), ((u < f ∧ u' < f') ∨ (f ≤ u ∧ u < f + n ∧ u' = u - f + f')) → rl f f' n (la P f m u) (la P' f' m u') := by
  obtain ⟨hw, f0, n0, fn, r3, rt⟩ := h
  obtain ⟨hw', f0', n0', fn', r3', rt'⟩ := h'
  intro m
  induction m with
  | zero => intro u u' _; exact Or.inl ⟨by show (-1 : Int) < 0; omega, rfl⟩
  | succ m ih =>
    intro u u' hu
    rw [la, la]
    rcases hu with ⟨u1, u2⟩ | ⟨u1, u2, u3⟩
    · rw [if_pos (Or.inl u1), if_pos (Or.inl u2)]
      exact Or.inl ⟨by omega, rfl⟩
    · rw [if_neg (show ¬ (u < f ∨ u < 0) by omega), if_neg (show ¬ (u' < f' ∨ u' < 0) by omega)]
      obtain ⟨i1, i3, i2⟩ := hi (u - f) (by omega) (by omega)
      rw [show f + (u - f) = u by omega, show f' + (u - f) = u' by omega] at i1 i2
      have p := hw.pr (k := u) (by omega) (by omega)
      rw [i1]
      by_cases c : P' 1 u' = 6
      · rw [if_pos c, if_pos c]
        exact Or.inr ⟨u1, u2, u3⟩
      · rw [if_neg c, if_neg c]
        refine ih _ _ ?_
        rcases i2 with ⟨v1, v2⟩ | ⟨v1, v2, v3, v4⟩
        · exact Or.inl ⟨v1, v2⟩
        · exact Or.inr ⟨v1, by omega, by omega⟩
theorem iso_fo (h : RG P f n) (h' : RG P' f' n) (hi : Iso P f P' f' n) {x s : Int} (x0 : 0 ≤ x) (x1 : x < n) : ∀ (m : Nat) (c : Int), f + x < c → rl f f' n (fo P (f + x) s m c) (fo P' (f' + x) s m (c - f + f')) := by
  obtain ⟨hw, f0, n0, fn, r3, rt⟩ := h
  obtain ⟨hw', f0', n0', fn', r3', rt'⟩ := h'
  obtain ⟨i1, i3, i2⟩ := hi x x0 x1
  have rx := r3 x x0 x1
  intro m
  induction m with
  | zero => intro c _; exact Or.inl ⟨by show (-1 : Int) < 0; omega, rfl⟩
  | succ m ih =>
    intro c hc
    rw [fo, fo]
    by_cases q : c < P 3 (f + x)
    · rw [if_pos q, if_pos (show c - f + f' < P' 3 (f' + x) by omega)]
      obtain ⟨j1, j3, j2⟩ := hi (c - f) (by omega) (by omega)
      rw [show f + (c - f) = c by omega, show f' + (c - f) = c - f + f' by omega] at j2
      have e : (P 2 c = f + x ∧ P 4 c = s) ↔ (P' 2 (c - f + f') = f' + x ∧ P' 4 (c - f + f') = s) := by
        rcases j2 with ⟨v1, v2⟩ | ⟨v1, v2, v3, v4⟩
        · constructor
          · intro z; omega
          · intro z; omega
        · constructor
          · intro z; exact ⟨by omega, by omega⟩
          · intro z; exact ⟨by omega, by omega⟩
      by_cases z : P 2 c = f + x ∧ P 4 c = s
      · rw [if_pos z, if_pos (e.mp z)]
        exact Or.inr ⟨by omega, by omega, rfl⟩
      · rw [if_neg z, if_neg (fun w => z (e.mpr w))]
        have := ih (c + 1) (by omega)
        rw [show c + 1 - f + f' = c - f + f' + 1 by omega] at this
        exact this
    · rw [if_neg q, if_neg (show ¬ c - f + f' < P' 3 (f' + x) by omega)]
      exact Or.inl ⟨by omega, rfl⟩
theorem iso_en (h : RG P f n) (h' : RG P' f' n) (hi : Iso P f P' f' n) {x s : Int} (x0 : 0 ≤ x) (x1 : x < n) : rl f f' n (en P f (f + n - 1) (f + x) s) (en P' f' (f' + n - 1) (f' + x) s) := by
  have a := iso_fo h h' hi (s := s) x0 x1 40 (f + x + 1) (by omega)
  rw [show f + x + 1 - f + f' = f' + x + 1 by omega] at a
  have b := iso_bh h h' hi 40 x x0 x1
  have i1 := (hi x x0 x1).1
  have f0 := h.2.1
  have f0' := h'.2.1
  unfold en
  by_cases c : fo P (f + x) s 40 (f + x + 1) ≠ -1
  · rw [if_pos c]
    rcases a with a | a
    · rw [if_pos (by omega)]; exact Or.inl a
    · rw [if_pos (by omega)]; exact Or.inr a
  · rw [if_neg c]
    rcases a with a | a
    · rw [if_neg (show ¬ fo P' (f' + x) s 40 (f' + x + 1) ≠ -1 by omega), i1]
      by_cases c2 : P' 1 (f' + x) = 6 ∧ s = 0
      · rw [if_pos c2, if_pos c2]; exact Or.inr ⟨by omega, by omega, by omega⟩
      · rw [if_neg c2, if_neg c2]; exact b
    · omega
theorem iso_tg (h : RG P f n) (h' : RG P' f' n) (hi : Iso P f P' f' n) {x e : Int} (x0 : 0 ≤ x) (x1 : x < n) (he : e4 e) : rl f f' n (tg P f (f + n - 1) (f + x) e) (tg P' f' (f' + n - 1) (f' + x) e) := by
  have b := iso_bh h h' hi 40 x x0 x1
  obtain ⟨i1, i3, i2⟩ := hi x x0 x1
  have hw := h.1
  have f0 := h.2.1
  have f0' := h'.2.1
  have fn := h.2.2.2.1
  have p := hw.pr (k := f + x) (by omega) (by omega)
  have a := iso_la h h' hi 40 (P 2 (f + x)) (P' 2 (f' + x)) (by
    rcases i2 with ⟨v1, v2⟩ | ⟨v1, v2, v3, v4⟩
    · exact Or.inl ⟨v1, v2⟩
    · exact Or.inr ⟨v1, by omega, by omega⟩)
  unfold tg
  by_cases c : e = 1
  · rw [if_pos c, if_pos c]; exact b
  · rw [if_neg c, if_neg c]
    rcases a with a | a
    · have q1 : la P f 40 (P 2 (f + x)) = -1 := by
        rcases la_rng hw (f := f) f0 40 (P 2 (f + x)) (by omega) with q | q
        · exact q
        · omega
      rw [if_pos (Or.inr q1), if_pos (show e = 8 ∨ la P' f' 40 (P' 2 (f' + x)) = -1 from Or.inr (by omega))]
      exact Or.inl ⟨by omega, rfl⟩
    · by_cases c8 : e = 8
      · rw [if_pos (Or.inl c8), if_pos (Or.inl c8)]
        exact Or.inl ⟨by omega, rfl⟩
      · rw [if_neg (show ¬ (e = 8 ∨ la P f 40 (P 2 (f + x)) = -1) by omega), if_neg (show ¬ (e = 8 ∨ la P' f' 40 (P' 2 (f' + x)) = -1) by omega)]
        by_cases c2 : e = 2
        · rw [if_pos c2, if_pos c2]
          have := iso_bh h h' hi 40 (la P f 40 (P 2 (f + x)) - f) (by omega) (by omega)
          rw [show f + (la P f 40 (P 2 (f + x)) - f) = la P f 40 (P 2 (f + x)) by omega, show f' + (la P f 40 (P 2 (f + x)) - f) = la P' f' 40 (P' 2 (f' + x)) by omega] at this
          exact this
        · rw [if_neg c2, if_neg c2]; exact Or.inr a
/-- edges go over; ES: how the sets go over -/
theorem iso_ed (h : RG P f n) (h' : RG P' f' n) (hi : Iso P f P' f' n) {ES : Int → Int → Prop} (h0 : ES 0 0) (hE : ∀ x, 0 ≤ x → x < n → P 20 (f + x) = P' 20 (f' + x) ∧ ∀ e, e4 e → iand (P 20 (f + x)) e ≠ 0 → ES (P 21 (16 * (f + x) + e)) (P' 21 (16 * (f' + x) + e))) {x y S : Int} (x0 : 0 ≤ x) (x1 : x < n) (he : Ed P f (f + n - 1) (f + x) y S) : ∃ y' S', Ed P' f' (f' + n - 1) (f' + x) y' S' ∧ rl f f' n y y' ∧ ES S S' := by
  have i1 := (hi x x0 x1).1
  rcases he with ⟨k, e0, ey⟩ | ⟨k5, k6, e, e4', ea, ey, eS⟩
  · rcases ey with ey | ey
    · exact ⟨_, 0, Or.inl ⟨by rw [← i1]; exact k, rfl, Or.inl rfl⟩, by rw [ey]; exact iso_en h h' hi x0 x1, by rw [e0]; exact h0⟩
    · exact ⟨_, 0, Or.inl ⟨by rw [← i1]; exact k, rfl, Or.inr rfl⟩, by rw [ey]; exact iso_en h h' hi x0 x1, by rw [e0]; exact h0⟩
  · obtain ⟨q1, q2⟩ := hE x x0 x1
    exact ⟨_, _, Or.inr ⟨by rw [← i1]; exact k5, by rw [← i1]; exact k6, e, e4', by rw [← q1]; exact ea, rfl, rfl⟩, by rw [ey]; exact iso_tg h h' hi x0 x1 e4', by rw [eS]; exact q2 e e4' ea⟩
theorem iso_rw (h : RG P f n) (h' : RG P' f' n) (hi : Iso P f P' f' n) {ES : Int → Int → Prop} (h0 : ES 0 0) (hE : ∀ x, 0 ≤ x → x < n → P 20 (f + x) = P' 20 (f' + x) ∧ ∀ e, e4 e → iand (P 20 (f + x)) e ≠ 0 → ES (P 21 (16 * (f + x) + e)) (P' 21 (16 * (f' + x) + e))) {W W' : Int → Prop} (hW : ∀ S S', ES S S' → W S → W' S') {k : Int} (hk : Rw P f (f + n - 1) W k) : f ≤ k ∧ k < f + n ∧ Rw P' f' (f' + n - 1) W' (k - f + f') := by
  have n0 := h.2.2.1
  have f0 := h.2.1
  refine hk (fun k => f ≤ k ∧ k < f + n ∧ Rw P' f' (f' + n - 1) W' (k - f + f')) ⟨by omega, by omega, by rw [show f - f + f' = f' by omega]; exact Rw.base⟩ ?_
  intro a x S a0 a1 ⟨b0, b1, b2⟩ he hx hS
  have he' : Ed P f (f + n - 1) (f + (a - f)) x S := by rw [show f + (a - f) = a by omega]; exact he
  obtain ⟨y', S', e1, e2, e3⟩ := iso_ed h h' hi h0 hE (x := a - f) (by omega) (by omega) he'
  rcases e2 with e2 | e2
  · omega
  · refine ⟨e2.1, e2.2.1, ?_⟩
    rw [← e2.2.2]
    have f0' := h'.2.1
    rw [show f' + (a - f) = a - f + f' by omega] at e1
    exact Rw.step (by omega) (by omega) b2 e1 (by omega) (hW S S' e3 hS)
theorem iso_xE (h : RG P f n) (h' : RG P' f' n) (hi : Iso P f P' f' n) {ES : Int → Int → Prop} (h0 : ES 0 0) (hE : ∀ x, 0 ≤ x → x < n → P 20 (f + x) = P' 20 (f' + x) ∧ ∀ e, e4 e → iand (P 20 (f + x)) e ≠ 0 → ES (P 21 (16 * (f + x) + e)) (P' 21 (16 * (f' + x) + e))) {e : Int} (he : e4 e) (hx : xE P f (f + n - 1) e) : xE P' f' (f' + n - 1) e := by
  obtain ⟨k, S, k0, k1, hk, hk2⟩ := hx
  obtain ⟨a0, a1, a2⟩ := iso_rw h h' hi h0 hE (W := wA) (W' := wA) (fun _ _ _ _ => trivial) hk
  have hk2' : Ed P f (f + n - 1) (f + (k - f)) (-e) S := by rw [show f + (k - f) = k by omega]; exact hk2
  obtain ⟨y', S', e1, e2, e3⟩ := iso_ed h h' hi h0 hE (x := k - f) (by omega) (by omega) hk2'
  have : y' = -e := by
    have := h.2.1
    rcases e2 with e2 | e2
    · exact e2.2
    · omega
  rw [this, show f' + (k - f) = k - f + f' by omega] at e1
  exact ⟨k - f + f', S', by omega, by omega, a2, e1⟩
theorem iso_mU (h : RG P f n) (h' : RG P' f' n) (hi : Iso P f P' f' n) {ES : Int → Int → Prop} (h0 : ES 0 0) (hE : ∀ x, 0 ≤ x → x < n → P 20 (f + x) = P' 20 (f' + x) ∧ ∀ e, e4 e → iand (P 20 (f + x)) e ≠ 0 → ES (P 21 (16 * (f + x) + e)) (P' 21 (16 * (f' + x) + e))) {v w : Nat} (hv : ∀ S S', ES S S' → bt S v = false → bt S' w = false) {e : Int} (he : e4 e) (hx : mU P f (f + n - 1) e v) : mU P' f' (f' + n - 1) e w := by
  obtain ⟨k, S, k0, k1, hk, hk2, hk3⟩ := hx
  obtain ⟨a0, a1, a2⟩ := iso_rw h h' hi h0 hE (W := wV v) (W' := wV w) hv hk
  have hk2' : Ed P f (f + n - 1) (f + (k - f)) (-e) S := by rw [show f + (k - f) = k by omega]; exact hk2
  obtain ⟨y', S', e1, e2, e3⟩ := iso_ed h h' hi h0 hE (x := k - f) (by omega) (by omega) hk2'
  have : y' = -e := by
    have := h.2.1
    rcases e2 with e2 | e2
    · exact e2.2
    · omega
  rw [this, show f' + (k - f) = k - f + f' by omega] at e1
  exact ⟨k - f + f', S', by omega, by omega, a2, e1, hv S S' e3 hk3⟩
theorem iso_Lv (h : RG P f n) (h' : RG P' f' n) (hi : Iso P f P' f' n) {ES : Int → Int → Prop} (h0 : ES 0 0) (hE : ∀ x, 0 ≤ x → x < n → P 20 (f + x) = P' 20 (f' + x) ∧ ∀ e, e4 e → iand (P 20 (f + x)) e ≠ 0 → ES (P 21 (16 * (f + x) + e)) (P' 21 (16 * (f' + x) + e))) {v w : Nat} (hv : ∀ S S', ES S S' → bt S v = false → bt S' w = false) (hr : ∀ x, 0 ≤ x → x < n → bt (P 10 (f + x)) v = true → bt (P' 10 (f' + x)) w = true) {k : Int} (hk : Lv P f (f + n - 1) v k) : Lv P' f' (f' + n - 1) w (k - f + f') := by
  have n0 := h.2.2.1
  have f0 := h.2.1
  have f0' := h'.2.1
  refine hk (fun k => Lv P' f' (f' + n - 1) w (k - f + f')) ?_ ?_
  · intro a a0 a1 hb
    have := hr (a - f) (by omega) (by omega) (by rw [show f + (a - f) = a by omega]; exact hb)
    exact Lv.base (by omega) (by omega) (by rw [show a - f + f' = f' + (a - f) by omega]; exact this)
  · intro a x S a0 a1 he hx hS hT
    have he' : Ed P f (f + n - 1) (f + (a - f)) x S := by rw [show f + (a - f) = a by omega]; exact he
    obtain ⟨y', S', e1, e2, e3⟩ := iso_ed h h' hi h0 hE (x := a - f) (by omega) (by omega) he'
    rcases e2 with e2 | e2
    · omega
    · rw [← e2.2.2] at hT
      rw [show f' + (a - f) = a - f + f' by omega] at e1
      exact Lv.step (by omega) (by omega) e1 (by omega) (hv S S' e3 hS) hT
end I
