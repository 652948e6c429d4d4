/-! How a span is left, in the whole program -/
section X
variable {P : Pg} {i j : Int}
theorem bh_out (hw : WF P) (h2 : WF2 P) (hs : isp P i j) : ∀ (m : Nat) (u : Int), i ≤ u → u < P 3 j → u.toNat < m → bh P i (P 3 j - 1) m u = -1 → bh P 0 (P 0 0 - 1) m u = bh P 0 (P 0 0 - 1) 40 j := by
  have rg := RG.of hw h2 hs
  have hs' := hs
  obtain ⟨s1, s2, s3, s4, s5⟩ := hs
  have n0 := hw.n0
  have aj := hw.af (k := j) (by omega) s3
  intro m
  induction m with
  | zero => intro u _ _ h; omega
  | succ m ih =>
    intro u u0 u1 um hb
    have au := hw.af (k := u) (by omega) (by omega)
    have pu := hw.pr (k := u) (by omega) (by omega)
    have nc : ¬ (P 3 u ≤ P 3 j - 1 ∧ P 2 (P 3 u) = P 2 u ∧ P 4 (P 3 u) = P 4 u) := by
      intro c
      rw [bh, if_pos c] at hb
      omega
    rw [bh, if_neg nc] at hb
    by_cases top : P 2 u < i
    · -- it is the last one
      have t := rg.2.2.2.2.2 (u - i) (by omega) (by omega) (by rw [show i + (u - i) = u by omega]; exact top)
      rw [show i + (u - i) = u by omega] at t
      have ej : u = j := by
        refine Classical.byContradiction fun ne => ?_
        have le : u ≤ j := by
          refine Int.not_lt.mp fun q => ?_
          have := hw.in1 (j := j) (k := u) (by omega) q u1 (by omega)
          omega
        obtain ⟨f1, f2, f3⟩ := isp_next hw h2 (k := u) (j := j) ⟨by omega, by omega, s3, by omega, by omega⟩ (by omega)
        exact nc ⟨by have := f2.2.1; omega, by have := f2.2.2.2.1; omega, by have := f2.2.2.2.2; omega⟩
      rw [ej]
      exact bh_fuel hw (m + 1) j 40 (by omega) s3 (by omega) (by omega)
    · rw [if_neg (by omega)] at hb
      by_cases c6 : P 1 (P 2 u) = 6
      · rw [if_pos c6] at hb; omega
      · rw [if_neg c6] at hb
        have up := hw.up (k := u) (by omega) (by omega) (by omega)
        have rp := rg.2.2.2.2.1 (P 2 u - i) (by omega) (by omega)
        rw [show i + (P 2 u - i) = P 2 u by omega] at rp
        have nc0 : ¬ (P 3 u ≤ P 0 0 - 1 ∧ P 2 (P 3 u) = P 2 u ∧ P 4 (P 3 u) = P 4 u) := by
          intro c
          have up3 := hw.up (k := P 3 u) (by omega) (by omega) (by omega)
          have a3 := hw.af (k := P 3 u) (by omega) (by omega)
          rw [c.2.1] at up3
          exact nc ⟨by omega, c.2.1, c.2.2⟩
        rw [bh, if_neg nc0, if_neg (show ¬ (P 2 u < 0 ∨ P 2 u < 0) by omega), if_neg c6]
        exact ih (P 2 u) (by omega) (by omega) (by omega) hb
theorem la_out (hw : WF P) (hs : isp P i j) : ∀ (m : Nat) (u : Int), i ≤ u → u < P 3 j → u.toNat < m → la P i m (P 2 u) = -1 → la P 0 m (P 2 u) = la P 0 40 (P 2 j) := by
  have hs' := hs
  obtain ⟨s1, s2, s3, s4, s5⟩ := hs
  have n0 := hw.n0
  have aj := hw.af (k := j) (by omega) s3
  have pj := hw.pr (k := j) (by omega) s3
  intro m
  induction m with
  | zero => intro u _ _ h; omega
  | succ m ih =>
    intro u u0 u1 um hl
    have pu := hw.pr (k := u) (by omega) (by omega)
    by_cases top : P 2 u < i
    · have e := hw.out hs' u0 u1 top
      have pi := hw.pr (k := i) s1 (by omega)
      rw [e, s4]
      exact la_fuel hw (m + 1) (P 2 j) 40 (by omega) (by omega) (by omega)
    · rw [la, if_neg (by omega)] at hl
      by_cases c6 : P 1 (P 2 u) = 6
      · rw [if_pos c6] at hl; omega
      · rw [if_neg c6] at hl
        rw [la, if_neg (show ¬ (P 2 u < 0 ∨ P 2 u < 0) by omega), if_neg c6]
        exact ih (P 2 u) (by omega) (by omega) (by omega) hl
/-- what a region's target is in the whole -/
def TgR (P : Pg) (i j y' y : Int) : Prop := (i ≤ y' ∧ y' < P 3 j ∧ y = y') ∨ ∃ e, e4 e ∧ y' = -e ∧ y = tg P 0 (P 0 0 - 1) j e
theorem bh_TgR (hw : WF P) (h2 : WF2 P) (hs : isp P i j) {u : Int} (u0 : i ≤ u) (u1 : u < P 3 j) : TgR P i j (bh P i (P 3 j - 1) 40 u) (bh P 0 (P 0 0 - 1) 40 u) := by
  have n0 := hw.n0
  have aj := hw.af (k := j) (by have := hs.1; have := hs.2.1; omega) hs.2.2.1
  have r := bh_reg hw hs 40 u u0 u1
  have s1 := hs.1
  by_cases c : bh P i (P 3 j - 1) 40 u = -1
  · have o := bh_out hw h2 hs 40 u u0 u1 (by omega) c
    exact Or.inr ⟨1, Or.inl rfl, c, by rw [o]; unfold tg; rw [if_pos rfl]⟩
  · unfold cut at r
    by_cases d : i ≤ bh P 0 (P 0 0 - 1) 40 u ∧ bh P 0 (P 0 0 - 1) 40 u ≤ P 3 j - 1
    · rw [if_pos d] at r
      exact Or.inl ⟨by omega, by omega, r.symm⟩
    · rw [if_neg d] at r; exact (c r).elim
theorem en_TgR (hw : WF P) (h2 : WF2 P) (hs : isp P i j) {u s : Int} (u0 : i ≤ u) (u1 : u < P 3 j) : TgR P i j (en P i (P 3 j - 1) u s) (en P 0 (P 0 0 - 1) u s) := by
  have n0 := hw.n0
  have aj := hw.af (k := j) (by have := hs.1; have := hs.2.1; omega) hs.2.2.1
  have s1 := hs.1
  have au := hw.af (k := u) (by omega) (by omega)
  have rg := (hw.rgS hs).2.2.2 u u0 (by omega)
  unfold en
  by_cases c : fo P u s 40 (u + 1) ≠ -1
  · rw [if_pos c, if_pos c]
    rcases fo_spec (P := P) (k := u) (s := s) 40 (u + 1) (by omega) with q | q
    · exact (c q.1).elim
    · exact Or.inl ⟨by omega, by omega, rfl⟩
  · rw [if_neg c, if_neg c]
    by_cases c2 : P 1 u = 6 ∧ s = 0
    · rw [if_pos c2, if_pos c2]; exact Or.inl ⟨u0, u1, rfl⟩
    · rw [if_neg c2, if_neg c2]; exact bh_TgR hw h2 hs u0 u1
theorem tg_TgR (hw : WF P) (h2 : WF2 P) (hs : isp P i j) {u e : Int} (u0 : i ≤ u) (u1 : u < P 3 j) (he : e4 e) (hl : (e = 2 ∨ e = 4) → la P 0 40 (P 2 u) ≠ -1) : TgR P i j (tg P i (P 3 j - 1) u e) (tg P 0 (P 0 0 - 1) u e) := by
  have n0 := hw.n0
  have aj := hw.af (k := j) (by have := hs.1; have := hs.2.1; omega) hs.2.2.1
  have s1 := hs.1
  have pu := hw.pr (k := u) (by omega) (by omega)
  unfold tg
  by_cases c1 : e = 1
  · rw [if_pos c1, if_pos c1]; exact bh_TgR hw h2 hs u0 u1
  · rw [if_neg c1, if_neg c1]
    by_cases c8 : e = 8
    · rw [if_pos (Or.inl c8), if_pos (Or.inl c8)]
      refine Or.inr ⟨8, by omega, by omega, ?_⟩
      unfold tg
      rw [if_neg (by omega), if_pos (Or.inl rfl)]; omega
    · have l0 := hl (by omega)
      have r0 := la_rng hw (f := 0) (by omega) 40 (P 2 u) (by omega)
      have rr := la_reg hw (f := i) s1 40 (P 2 u) (by omega)
      rw [if_neg (show ¬ (e = 8 ∨ la P 0 40 (P 2 u) = -1) by omega)]
      by_cases cl : la P i 40 (P 2 u) = -1
      · rw [if_pos (Or.inr cl)]
        have o := la_out hw hs 40 u u0 u1 (by omega) cl
        refine Or.inr ⟨e, he, rfl, ?_⟩
        unfold tg
        rw [if_neg c1, ← o, if_neg (show ¬ (e = 8 ∨ la P 0 40 (P 2 u) = -1) by omega)]
      · rw [if_neg (show ¬ (e = 8 ∨ la P i 40 (P 2 u) = -1) by omega)]
        have el : la P i 40 (P 2 u) = la P 0 40 (P 2 u) := by
          by_cases d : i ≤ la P 0 40 (P 2 u)
          · rw [if_pos d] at rr; exact rr
          · rw [if_neg d] at rr; exact (cl rr).elim
        have li : i ≤ la P 0 40 (P 2 u) := by
          refine Int.not_lt.mp fun d => ?_
          rw [if_neg (by omega)] at rr; exact cl rr
        rw [el]
        by_cases c2 : e = 2
        · rw [if_pos c2, if_pos c2]; exact bh_TgR hw h2 hs li (by omega)
        · rw [if_neg c2, if_neg c2]; exact Or.inl ⟨li, by omega, rfl⟩
/-- the ways within a span and those of the whole -/
theorem ed_reg (hw : WF P) (h2 : WF2 P) (hs : isp P i j) {u : Int} (u0 : i ≤ u) (u1 : u < P 3 j) (hl : ∀ e, (e = 2 ∨ e = 4) → P 1 u ≠ 5 → P 1 u ≠ 6 → iand (P 20 u) e ≠ 0 → la P 0 40 (P 2 u) ≠ -1) : (∀ y' S, Ed P i (P 3 j - 1) u y' S → ∃ y, Ed P 0 (P 0 0 - 1) u y S ∧ TgR P i j y' y) ∧ (∀ y S, Ed P 0 (P 0 0 - 1) u y S → ∃ y', Ed P i (P 3 j - 1) u y' S ∧ TgR P i j y' y) := by
  constructor
  · rintro y' S (⟨q1, q2, q3⟩ | ⟨q1, q2, e, he, q3, q4, q5⟩)
    · rcases q3 with q3 | q3
      · exact ⟨_, Or.inl ⟨q1, q2, Or.inl rfl⟩, by rw [q3]; exact en_TgR hw h2 hs u0 u1⟩
      · exact ⟨_, Or.inl ⟨q1, q2, Or.inr rfl⟩, by rw [q3]; exact en_TgR hw h2 hs u0 u1⟩
    · exact ⟨_, Or.inr ⟨q1, q2, e, he, q3, rfl, q5⟩, by rw [q4]; exact tg_TgR hw h2 hs u0 u1 he (fun z => hl e z q1 q2 q3)⟩
  · rintro y S (⟨q1, q2, q3⟩ | ⟨q1, q2, e, he, q3, q4, q5⟩)
    · rcases q3 with q3 | q3
      · exact ⟨_, Or.inl ⟨q1, q2, Or.inl rfl⟩, by rw [q3]; exact en_TgR hw h2 hs u0 u1⟩
      · exact ⟨_, Or.inl ⟨q1, q2, Or.inr rfl⟩, by rw [q3]; exact en_TgR hw h2 hs u0 u1⟩
    · exact ⟨_, Or.inr ⟨q1, q2, e, he, q3, rfl, q5⟩, by rw [q4]; exact tg_TgR hw h2 hs u0 u1 he (fun z => hl e z q1 q2 q3)⟩
/-- nothing in the region sets v: a way that leaves leaves without it -/
theorem xE_mU {f t e : Int} {v : Nat} (hn : ∀ k y S, f ≤ k → k ≤ t → Ed P f t k y S → bt S v = false) (h : xE P f t e) : mU P f t e v := by
  obtain ⟨k, S, k0, k1, k2, k3⟩ := h
  refine ⟨k, S, k0, k1, ?_, k3, hn k (-e) S k0 k1 k3⟩
  exact k2 (Rw P f t (wV v)) Rw.base (fun a x S' a0 a1 ha he hx _ => Rw.step a0 a1 ha he hx (hn a x S' a0 a1 he))
theorem mU_xE {f t e : Int} {v : Nat} (h : mU P f t e v) : xE P f t e := by
  obtain ⟨k, S, k0, k1, k2, k3, k4⟩ := h
  exact ⟨k, S, k0, k1, k2 (Rw P f t wA) Rw.base (fun a x S' a0 a1 ha he hx _ => Rw.step a0 a1 ha he hx trivial), k3⟩
end X
