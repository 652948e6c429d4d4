/-! A statement comes to a program that is being read -/
/-- P2 is P with one statement more, in the open block of u -/
def Grw (P P2 : Pg) (u s x : Int) : Prop := P2 0 0 = P 0 0 + 1 ∧ (P2 1 (P 0 0) = x ∧ P2 2 (P 0 0) = u ∧ P2 3 (P 0 0) = P 0 0 + 1 ∧ P2 4 (P 0 0) = s) ∧ ∀ k, 0 ≤ k → k < P 0 0 → P2 1 k = P 1 k ∧ P2 2 k = P 2 k ∧ P2 4 k = P 4 k ∧ P2 3 k = (if k ≤ u ∧ u < P 3 k then P 0 0 + 1 else P 3 k)
/-- the block of u is open: nothing comes behind it -/
def Opn (P : Pg) (u : Int) : Prop := u = -1 ∨ ((0 ≤ u ∧ u < P 0 0) ∧ P 3 u = P 0 0 ∧ (P 1 u = 5 ∨ P 1 u = 6))
section W
variable {P P2 : Pg} {u s x : Int}
theorem Opn.up (h : WF P) (hu : Opn P u) {k : Int} (k0 : 0 ≤ k) (k1 : k ≤ u) (k2 : u < P 3 k) : P 3 k = P 0 0 := by
  rcases hu with e | ⟨⟨u0, u1⟩, u2, -⟩
  · omega
  · by_cases e : k = u
    · rw [e]; exact u2
    · have := h.ins (j := k) (k := u) k0 (by omega) k2 u1
      have a := h.af (k := k) k0 (by omega)
      omega
theorem Grw.wf (h : WF P) (hn : P 0 0 < 40) (hu : Opn P u) (hx : 0 ≤ x ∧ x ≤ 7) (hs : s = 0 ∨ s = 1) (hs0 : u = -1 → s = 0) (hs6 : 0 ≤ u → P 1 u = 6 → s = 0) (g : Grw P P2 u s x) : WF P2 := by
  have n0 := h.n0
  obtain ⟨g0, ⟨g1, g2, g3, g4⟩, gk⟩ := g
  have ur : -1 ≤ u ∧ u < P 0 0 := by
    rcases hu with e | ⟨e, -⟩
    · omega
    · omega
  refine ⟨by omega, by omega, fun k k0 k1 => ?_⟩
  rw [g0] at k1
  by_cases e : k = P 0 0
  · subst e
    rw [g1, g2, g3, g4]
    refine ⟨by omega, by omega, fun q => ?_, fun j j0 j1 j2 => ?_, hx, hs, fun q => hs0 (by omega), fun q q6 => ?_⟩
    · obtain ⟨a1, a2, a3, a4⟩ := gk u q (by omega)
      have af := h.af (k := u) q (by omega)
      rw [a4, a1, if_pos ⟨Int.le_refl _, by omega⟩]
      rcases hu with e | ⟨-, -, e⟩
      · omega
      · exact ⟨Int.le_refl _, e⟩
    · obtain ⟨a1, a2, a3, a4⟩ := gk j j0 j2
      rw [a4, if_neg (by omega)]
      exact (h.af j0 j2).2
    · rw [(gk u q (by omega)).1] at q6
      exact hs6 q q6
  · have kn : k < P 0 0 := by omega
    obtain ⟨a1, a2, a3, a4⟩ := gk k k0 kn
    obtain ⟨b1, b2, b3, b4, b5, b6, b7, b8⟩ := h.2.2 k k0 kn
    rw [a1, a2, a3]
    refine ⟨b1, ?_, fun q => ?_, fun j j0 j1 j2 => ?_, b5, b6, b7, fun q q6 => ?_⟩
    · rw [a4]; split <;> omega
    · obtain ⟨c1, c2, c3, c4⟩ := gk (P 2 k) q (by omega)
      obtain ⟨d1, d2⟩ := b3 q
      rw [c1]
      refine ⟨?_, d2⟩
      rw [a4, c4]
      by_cases y : k ≤ u ∧ u < P 3 k
      · rw [if_pos y, if_pos ⟨by omega, by omega⟩]; exact Int.le_refl _
      · rw [if_neg y]
        split <;> omega
    · obtain ⟨c1, c2, c3, c4⟩ := gk j j0 (by omega)
      have d := b4 j j0 j1 j2
      rw [c4]
      by_cases y : j ≤ u ∧ u < P 3 j
      · have := hu.up h j0 y.1 y.2
        omega
      · rw [if_neg y]; exact d
    · rw [(gk (P 2 k) q (by omega)).1] at q6
      exact b8 q q6
theorem Grw.old (h : WF P) (hu : Opn P u) (g : Grw P P2 u s x) : ∀ k, 0 ≤ k → k < P 0 0 → P2 1 k = P 1 k ∧ P2 2 k = P 2 k ∧ P2 4 k = P 4 k ∧ P 3 k = (if P2 3 k = P 0 0 + 1 then P 0 0 else P2 3 k) := by
  intro k k0 k1
  obtain ⟨a1, a2, a3, a4⟩ := g.2.2 k k0 k1
  refine ⟨a1, a2, a3, ?_⟩
  have af := h.af k0 k1
  rw [a4]
  by_cases y : k ≤ u ∧ u < P 3 k
  · rw [if_pos y, if_pos rfl]; exact hu.up h k0 y.1 y.2
  · rw [if_neg y, if_neg (by omega)]
theorem Grw.wf2 (h2 : WF2 P) (hs : ∀ a, 0 ≤ a → a < P 0 0 → P 2 a = u → P 4 a ≤ s) (g : Grw P P2 u s x) : WF2 P2 := by
  intro a b a0 ab b1 e
  obtain ⟨g0, ⟨g1, g2, g3, g4⟩, gk⟩ := g
  rw [g0] at b1
  obtain ⟨a1, a2, a3, -⟩ := gk a a0 (by omega)
  by_cases q : b = P 0 0
  · rw [q, g2, a2] at e
    rw [q, g4, a3]
    exact hs a a0 (by omega) e
  · obtain ⟨c1, c2, c3, -⟩ := gk b (by omega) (by omega)
    rw [a2, c2] at e
    rw [a3, c3]
    exact h2 a b a0 ab (by omega) e
end W
