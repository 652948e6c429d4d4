/-! The row behind a lift, or behind a settled method, is one alone -/
theorem place4 : ∀ x : Int, 0 ≤ x → x < 4 → ∃ e, e4 e ∧ sp_place e = x := by
  intro x x0 x1
  have : x = 0 ∨ x = 1 ∨ x = 2 ∨ x = 3 := by omega
  rcases this with e | e | e | e
  · exact ⟨1, Or.inl rfl, by rw [e]; rfl⟩
  · exact ⟨2, Or.inr (Or.inl rfl), by rw [e]; rfl⟩
  · exact ⟨4, Or.inr (Or.inr (Or.inl rfl)), by rw [e]; rfl⟩
  · exact ⟨8, Or.inr (Or.inr (Or.inr rfl)), by rw [e]; rfl⟩
/-- two rows are the same, piece by piece -/
theorem row_eq {A B : Int → Int} (h0 : ∀ j, ¬ (0 ≤ j ∧ j < 990) → A j = B j) (h1 : ∀ j, 0 ≤ j → j ≤ 760 → A j = B j) (h2 : A 761 = B 761) (hm : ∀ k, 0 ≤ k → k < 3 → A (762 + k) = B (762 + k) ∧ A (765 + k) = B (765 + k) ∧ A (768 + k) = B (768 + k) ∧ A (771 + k) = B (771 + k) ∧ A (774 + k) = B (774 + k) ∧ ∀ x, 0 ≤ x → x < 4 → A (777 + 4 * k + x) = B (777 + 4 * k + x)) (h3 : A 789 = B 789) (hc : ∀ c, 0 ≤ c → c < 40 → A (790 + c) = B (790 + c) ∧ A (830 + c) = B (830 + c) ∧ A (870 + c) = B (870 + c) ∧ A (910 + c) = B (910 + c) ∧ A (950 + c) = B (950 + c)) : A = B := by
  funext j
  by_cases z : 0 ≤ j ∧ j < 990
  · by_cases z1 : j ≤ 760
    · exact h1 j z.1 z1
    by_cases z2 : j = 761
    · rw [z2]; exact h2
    by_cases z3 : j < 765
    · have := (hm (j - 762) (by omega) (by omega)).1
      rw [show 762 + (j - 762) = j by omega] at this; exact this
    by_cases z4 : j < 768
    · have := (hm (j - 765) (by omega) (by omega)).2.1
      rw [show 765 + (j - 765) = j by omega] at this; exact this
    by_cases z5 : j < 771
    · have := (hm (j - 768) (by omega) (by omega)).2.2.1
      rw [show 768 + (j - 768) = j by omega] at this; exact this
    by_cases z6 : j < 774
    · have := (hm (j - 771) (by omega) (by omega)).2.2.2.1
      rw [show 771 + (j - 771) = j by omega] at this; exact this
    by_cases z7 : j < 777
    · have := (hm (j - 774) (by omega) (by omega)).2.2.2.2.1
      rw [show 774 + (j - 774) = j by omega] at this; exact this
    by_cases z8 : j < 789
    · have := (hm ((j - 777) / 4) (by omega) (by omega)).2.2.2.2.2 ((j - 777) % 4) (by omega) (by omega)
      rw [show 777 + 4 * ((j - 777) / 4) + (j - 777) % 4 = j by omega] at this; exact this
    by_cases z9 : j = 789
    · rw [z9]; exact h3
    by_cases y1 : j < 830
    · have := (hc (j - 790) (by omega) (by omega)).1
      rw [show 790 + (j - 790) = j by omega] at this; exact this
    by_cases y2 : j < 870
    · have := (hc (j - 830) (by omega) (by omega)).2.1
      rw [show 830 + (j - 830) = j by omega] at this; exact this
    by_cases y3 : j < 910
    · have := (hc (j - 870) (by omega) (by omega)).2.2.1
      rw [show 870 + (j - 870) = j by omega] at this; exact this
    by_cases y4 : j < 950
    · have := (hc (j - 910) (by omega) (by omega)).2.2.2.1
      rw [show 910 + (j - 910) = j by omega] at this; exact this
    · have := (hc (j - 950) (by omega) (by omega)).2.2.2.2
      rw [show 950 + (j - 950) = j by omega] at this; exact this
  · exact h0 j z
section U
variable {R rho R2 R3 rho2 fs es sg sg' : Int → Int} {i j m : Int}
theorem Lft.uniq (h : Lft R rho R2 rho2 i j fs es) (g : Lft R rho R3 rho2 i j fs es) (hk : R3 789 = R2 789) (w : Rsw R R2) (w' : Rsw R R3) : R3 = R2 := by
  obtain ⟨a1, a2, a3, a4, a5, a6, a7, a8, -⟩ := h
  obtain ⟨b1, b2, b3, b4, b5, b6, b7, b8, -⟩ := g
  have e761 : R3 761 = R2 761 := by rw [a2, b2]
  refine row_eq (fun q z => by rw [w.2.2 q z, w'.2.2 q z]) (fun q q0 q1 => by rw [a1 q q0 q1, b1 q q0 q1]) e761 (fun k k0 k1 => ?_) hk (fun c c0 c1 => ?_)
  · by_cases c1 : k < R 761
    · obtain ⟨x1, x2, x3, x4, x5, x6⟩ := a4 k k0 c1
      obtain ⟨y1, y2, y3, y4, y5, y6⟩ := b4 k k0 c1
      exact ⟨by rw [x1, y1], by rw [x2, y2], by rw [x3, y3], by rw [x4, y4], by rw [x5, y5], fun x x0 x1 => by rw [x6 x x0 x1, y6 x x0 x1]⟩
    · by_cases c2 : k = R 761
      · subst c2
        obtain ⟨x1, x2, x3, x4, x5, x6⟩ := a5
        obtain ⟨y1, y2, y3, y4, y5, y6⟩ := b5
        refine ⟨by rw [x1, y1], by rw [x2, y2], by rw [x3, y3], by rw [x4, y4], by rw [x5, y5], fun x x0 x1 => ?_⟩
        obtain ⟨e, he, ex⟩ := place4 x x0 x1
        rw [← ex, x6 e he, y6 e he]
      · obtain ⟨x1, x2, x3, x4, x5, x6⟩ := w.1 k (by omega) k0 k1
        obtain ⟨y1, y2, y3, y4, y5, y6⟩ := w'.1 k (by omega) k0 k1
        exact ⟨by rw [x1, y1], by rw [x2, y2], by rw [x3, y3], by rw [x4, y4], by rw [x5, y5], fun x x0 x1 => by rw [x6 x x0 x1, y6 x x0 x1]⟩
  · by_cases z1 : c < R 789
    · obtain ⟨-, x1, x2, x3, x4, x5⟩ := a7 c c0 z1
      obtain ⟨-, y1, y2, y3, y4, y5⟩ := b7 c c0 z1
      exact ⟨by rw [x1, y1], by rw [x2, y2], by rw [x3, y3], by rw [x4, y4], by rw [x5, y5]⟩
    · by_cases z2 : c < R2 789
      · obtain ⟨x1, x2, x3, x4, x5, -⟩ := a8 c (by omega) z2
        obtain ⟨y1, y2, y3, y4, y5, -⟩ := b8 c (by omega) (by omega)
        exact ⟨by rw [x1, y1], by rw [x2, y2], by rw [x3, y3], by rw [x4, y4], by rw [x5, y5]⟩
      · obtain ⟨x1, x2, x3, x4, x5⟩ := w.2.1 c (by omega) c0 c1
        obtain ⟨y1, y2, y3, y4, y5⟩ := w'.2.1 c (by omega) c0 c1
        exact ⟨by rw [x1, y1], by rw [x2, y2], by rw [x3, y3], by rw [x4, y4], by rw [x5, y5]⟩
theorem Stl.sgq (h : Stl R R2 m sg) (g : Stl R R3 m sg') : ∀ (n : Nat) (c : Int), c.toNat < n → 0 ≤ c → c < R2 789 → c < R3 789 ∧ sg c = sg' c := by
  obtain ⟨-, -, -, -, a5, a6, a7⟩ := h
  obtain ⟨-, -, -, -, b5, b6, b7⟩ := g
  intro n
  induction n with
  | zero => intro c z; omega
  | succ n ih =>
    intro c z c0 c1
    obtain ⟨r1, r2, -⟩ := a5 c c0 c1
    obtain ⟨c2, u0, u1, u2⟩ := b7 (sg c) r1.1 r1.2 r2
    by_cases lt : c2 < c
    · obtain ⟨-, e⟩ := ih c2 (by omega) u0 (by omega)
      have := a6 c2 c u0 lt c1
      omega
    · by_cases gt : c < c2
      · obtain ⟨s1, s2, -⟩ := b5 c c0 (by omega)
        have k1 := b6 c c2 c0 gt u1
        obtain ⟨c3, v0, v1, v2⟩ := a7 (sg' c) s1.1 s1.2 s2
        have lt3 : c3 < c := by
          refine Classical.byContradiction fun y => ?_
          by_cases e : c3 = c
          · rw [e] at v2; omega
          · have := a6 c c3 c0 (by omega) v1
            omega
        obtain ⟨-, e⟩ := ih c3 (by omega) v0 v1
        have := b6 c3 c v0 lt3 (by omega)
        omega
      · have : c2 = c := by omega
        rw [this] at u1 u2
        exact ⟨u1, u2.symm⟩
theorem Stl.uniq (h : Stl R R2 m sg) (g : Stl R R3 m sg') (h3 : 0 ≤ R 761 ∧ R 761 ≤ 3) (w : Rsw R R2) (w' : Rsw R R3) : R3 = R2 := by
  have q1 := fun c => h.sgq g (c.toNat + 1) c (by omega)
  have q2 := fun c => g.sgq h (c.toNat + 1) c (by omega)
  obtain ⟨a1, a2, a3, a4, a5, a6, a7⟩ := h
  obtain ⟨b1, b2, b3, b4, b5, b6, b7⟩ := g
  have e761 : R3 761 = R2 761 := by rw [a2, b2]
  have e789 : R3 789 = R2 789 := by
    by_cases c1 : R3 789 < R2 789
    · have := (q1 (R3 789) b4.1 c1).1; omega
    · by_cases c2 : R2 789 < R3 789
      · have := (q2 (R2 789) a4.1 c2).1; omega
      · omega
  refine row_eq (fun q z => by rw [w.2.2 q z, w'.2.2 q z]) (fun q q0 q1 => by rw [a1 q q0 q1, b1 q q0 q1]) e761 (fun k k0 k1 => ?_) e789 (fun c c0 c1 => ?_)
  · by_cases c1 : k < R2 761
    · obtain ⟨x1, x2, x3, x4, x5, x6⟩ := a3 k k0 c1
      obtain ⟨y1, y2, y3, y4, y5, y6⟩ := b3 k k0 (by omega)
      exact ⟨by rw [x1, y1], by rw [x2, y2], by rw [x3, y3], by rw [x4, y4], by rw [x5, y5], fun x x0 x1 => by rw [x6 x x0 x1, y6 x x0 x1]⟩
    · obtain ⟨x1, x2, x3, x4, x5, x6⟩ := w.1 k (by omega) k0 k1
      obtain ⟨y1, y2, y3, y4, y5, y6⟩ := w'.1 k (by omega) k0 k1
      exact ⟨by rw [x1, y1], by rw [x2, y2], by rw [x3, y3], by rw [x4, y4], by rw [x5, y5], fun x x0 x1 => by rw [x6 x x0 x1, y6 x x0 x1]⟩
  · by_cases z2 : c < R2 789
    · obtain ⟨-, -, x1, x2, x3, x4, x5⟩ := a5 c c0 z2
      obtain ⟨-, -, y1, y2, y3, y4, y5⟩ := b5 c c0 (by omega)
      rw [← (q1 c c0 z2).2] at y1 y2 y3 y4 y5
      exact ⟨by rw [x1, y1], by rw [x2, y2], by rw [x5, y5], by rw [x3, y3], by rw [x4, y4]⟩
    · obtain ⟨x1, x2, x3, x4, x5⟩ := w.2.1 c (by omega) c0 c1
      obtain ⟨y1, y2, y3, y4, y5⟩ := w'.2.1 c (by omega) c0 c1
      exact ⟨by rw [x1, y1], by rw [x2, y2], by rw [x3, y3], by rw [x4, y4], by rw [x5, y5]⟩
end U
