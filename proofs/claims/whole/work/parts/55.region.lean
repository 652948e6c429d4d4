/-! A span's edges are the program's, cut at its bounds -/
def cut (f t x : Int) : Int := if f ≤ x ∧ x ≤ t then x else -1
section R
variable {P : Pg}
theorem WF.out (h : WF P) {i j a : Int} (hs : isp P i j) (h1 : i ≤ a) (h2 : a < P 3 j) (h3 : P 2 a < i) : P 2 a = P 2 i := by
  obtain ⟨s0, s1, s2, s3, s4⟩ := hs
  have aj := h.af (k := j) (by omega) s2
  have pi := h.pr (k := i) s0 (by omega)
  have pa := h.pr (k := a) (by omega) (by omega)
  have aa := h.af (k := a) (by omega) (by omega)
  rcases Int.lt_trichotomy (P 2 a) (P 2 i) with q | q | q
  · exfalso
    have u := h.up (k := j) (by omega) s2 (by omega)
    have := h.bt (k := a) (j := P 2 i) (by omega) (by omega) (by omega) q (by omega)
    rw [← s3] at u
    omega
  · exact q
  · exfalso
    have u := h.up (k := a) (by omega) (by omega) (by omega)
    have := h.bt (k := i) (j := P 2 a) s0 (by omega) (by omega) q h3
    omega
theorem bh_reg (h : WF P) {i j : Int} (hs : isp P i j) : ∀ (n : Nat) (k : Int), i ≤ k → k < P 3 j → bh P i (P 3 j - 1) n k = cut i (P 3 j - 1) (bh P 0 (P 0 0 - 1) n k) := by
  have hr := h.rgS hs
  have hs' := hs
  obtain ⟨s0, s1, s2, s3, s4⟩ := hs
  have aj := h.af (k := j) (by omega) s2
  have hn := h.n0
  -- from an ancestor of the span a run stays outside
  have outside : ∀ (n : Nat) (p : Int), 0 ≤ p → p < i → P 3 j ≤ P 3 p → cut i (P 3 j - 1) (bh P 0 (P 0 0 - 1) n p) = -1 := by
    intro n p p0 p1 p2
    unfold cut
    by_cases c : bh P 0 (P 0 0 - 1) n p = -1
    · rw [c, if_neg (by omega)]
    · rw [if_neg]
      rcases bh_cases h (f := 0) (t := P 0 0 - 1) (by omega) (by omega) n p p0 (by omega) c with ⟨a, q1, q2, q3, q4, q5, -⟩ | ⟨q1, q2, q3, q4⟩
      · have : P 3 p ≤ P 3 a := by
          by_cases e : a = p
          · rw [e]; omega
          · exact h.ins (j := a) (k := p) q1 (by omega) q3 (by omega)
        omega
      · omega
  intro n
  induction n with
  | zero => intro k _ _; unfold cut; rw [bh, bh, if_neg (by omega)]
  | succ n ih =>
    intro k h1 h2
    have pk := h.pr (k := k) (by omega) (by omega)
    have ak := h.af (k := k) (by omega) (by omega)
    have rk := hr.2.2.2 k h1 (by omega)
    rw [bh, bh]
    by_cases c1 : P 3 k ≤ P 3 j - 1 ∧ P 2 (P 3 k) = P 2 k ∧ P 4 (P 3 k) = P 4 k
    · rw [if_pos c1, if_pos ⟨by omega, c1.2⟩]
      unfold cut
      rw [if_pos (by omega)]
    · rw [if_neg c1]
      by_cases c2 : P 3 k ≤ P 0 0 - 1 ∧ P 2 (P 3 k) = P 2 k ∧ P 4 (P 3 k) = P 4 k
      · -- it leaves to the next of the block
        rw [if_pos c2]
        have e : P 3 k = P 3 j := by omega
        unfold cut
        rw [if_neg (show ¬ (i ≤ P 3 k ∧ P 3 k ≤ P 3 j - 1) by omega)]
        by_cases c3 : P 2 k < i ∨ P 2 k < 0
        · rw [if_pos c3]
        · exfalso
          have r2 := hr.2.2.2 (P 2 k) (by omega) (by omega)
          have u := h.up (k := P 3 k) (by omega) (by omega) (by omega)
          have a3 := h.af (k := P 3 k) (by omega) (by omega)
          rw [c2.2.1] at u
          omega
      · rw [if_neg c2]
        by_cases c3 : P 2 k < i ∨ P 2 k < 0
        · rw [if_pos c3]
          by_cases c4 : P 2 k < 0
          · rw [if_pos (show P 2 k < 0 ∨ P 2 k < 0 by omega)]; unfold cut; rw [if_neg (by omega)]
          · rw [if_neg (show ¬ (P 2 k < 0 ∨ P 2 k < 0) by omega)]
            have e := h.out hs' h1 h2 (by omega)
            have u := h.up (k := j) (by omega) s2 (by omega)
            have u2 : P 3 j ≤ P 3 (P 2 k) := by rw [e, s3]; exact u
            by_cases c5 : P 1 (P 2 k) = 6
            · rw [if_pos c5]; unfold cut; rw [if_neg (by omega)]
            · rw [if_neg c5]; exact (outside n (P 2 k) (by omega) (by omega) u2).symm
        · rw [if_neg c3, if_neg (show ¬ (P 2 k < 0 ∨ P 2 k < 0) by omega)]
          by_cases c5 : P 1 (P 2 k) = 6
          · rw [if_pos c5, if_pos c5]; unfold cut; rw [if_pos (by omega)]
          · rw [if_neg c5, if_neg c5]; exact ih (P 2 k) (by omega) (by omega)
theorem la_reg (h : WF P) {f : Int} (hf : 0 ≤ f) : ∀ (n : Nat) (u : Int), u < P 0 0 → la P f n u = if f ≤ la P 0 n u then la P 0 n u else -1 := by
  intro n
  induction n with
  | zero => intro u _; rw [la, la]; rw [if_neg (by omega)]
  | succ n ih =>
    intro u hu
    rw [la, la]
    by_cases c1 : u < 0
    · rw [if_pos (show u < f ∨ u < 0 by omega), if_pos (show u < 0 ∨ u < 0 by omega), if_neg (show ¬ (f ≤ -1) by omega)]
    · by_cases c2 : P 1 u = 6
      · rw [if_pos c2, if_pos c2, if_neg (show ¬ (u < 0 ∨ u < 0) by omega)]
        by_cases c3 : u < f
        · rw [if_pos (show u < f ∨ u < 0 by omega), if_neg (show ¬ (f ≤ u) by omega)]
        · rw [if_neg (show ¬ (u < f ∨ u < 0) by omega), if_pos (show f ≤ u by omega)]
      · rw [if_neg c2, if_neg c2, if_neg (show ¬ (u < 0 ∨ u < 0) by omega)]
        have := h.pr (k := u) (by omega) hu
        by_cases c3 : u < f
        · rw [if_pos (show u < f ∨ u < 0 by omega)]
          have := la_rng h (f := 0) (by omega) n (P 2 u) (by omega)
          rw [if_neg (by omega)]
        · rw [if_neg (show ¬ (u < f ∨ u < 0) by omega)]
          exact ih (P 2 u) (by omega)
theorem en_reg (h : WF P) {i j : Int} (hs : isp P i j) {k s : Int} (h1 : i ≤ k) (h2 : k < P 3 j) : en P i (P 3 j - 1) k s = cut i (P 3 j - 1) (en P 0 (P 0 0 - 1) k s) := by
  have hr := h.rgS hs
  have hs' := hs
  obtain ⟨s0, s1, s2, s3, s4⟩ := hs
  have aj := h.af (k := j) (by omega) s2
  have hn := h.n0
  have ak := h.af (k := k) (by omega) (by omega)
  have rk := hr.2.2.2 k h1 (by omega)
  unfold en
  by_cases c1 : fo P k s 40 (k + 1) ≠ -1
  · rw [if_pos c1, if_pos c1]
    rcases fo_spec (P := P) (k := k) (s := s) 40 (k + 1) (by omega) with ⟨q, -⟩ | ⟨q1, q2, -⟩
    · exact absurd q c1
    · unfold cut; rw [if_pos (by omega)]
  · rw [if_neg c1, if_neg c1]
    by_cases c2 : P 1 k = 6 ∧ s = 0
    · rw [if_pos c2, if_pos c2]; unfold cut; rw [if_pos (by omega)]
    · rw [if_neg c2, if_neg c2]; exact bh_reg h hs' 40 k h1 h2
/-- by which exit a way leaves; 0: it stays -/
def lb (f t to is lo : Int) : Int := if is ≠ 1 ∧ ¬ (lo ≠ -1 ∧ f ≤ lo ∧ lo ≤ t) then is else if f ≤ to ∧ to ≤ t then 0 else 1
theorem cut_tN {f t x : Int} (hf : 0 ≤ f) (ht : t < P 0 0) : (f ≤ tN P x ∧ tN P x ≤ t) ↔ (f ≤ x ∧ x ≤ t) := by
  unfold tN
  split <;> omega
theorem lb_end {f t x : Int} (hf : 0 ≤ f) (ht : t < P 0 0) {is lo : Int} (h : is = 1 ∨ (lo ≠ -1 ∧ f ≤ lo ∧ lo ≤ t)) : (lb f t (tN P x) is lo = 0 ∧ cut f t x = tN P x) ∨ (lb f t (tN P x) is lo = 1 ∧ cut f t x = -1) := by
  unfold lb
  rw [if_neg (by omega)]
  by_cases c : f ≤ x ∧ x ≤ t
  · rw [if_pos ((cut_tN hf ht).mpr c)]
    left
    unfold cut tN
    rw [if_pos c, if_neg (by omega)]
    exact ⟨rfl, rfl⟩
  · rw [if_neg (fun z => c ((cut_tN hf ht).mp z))]
    right
    unfold cut
    rw [if_neg c]
    exact ⟨rfl, rfl⟩
/-- an exit's way, cut -/
theorem lb_tg (h : WF P) {i j : Int} (hs : isp P i j) {k e : Int} (h1 : i ≤ k) (h2 : k < P 3 j) (he : e4 e) (hl : (e = 2 ∨ e = 4) → la P 0 40 (P 2 k) ≠ -1) : (lb i (P 3 j - 1) (tN P (tg P 0 (P 0 0 - 1) k e)) e (if e = 2 ∨ e = 4 then la P 0 40 (P 2 k) else -1) = 0 ∧ tg P i (P 3 j - 1) k e = tN P (tg P 0 (P 0 0 - 1) k e)) ∨ (e4 (lb i (P 3 j - 1) (tN P (tg P 0 (P 0 0 - 1) k e)) e (if e = 2 ∨ e = 4 then la P 0 40 (P 2 k) else -1)) ∧ tg P i (P 3 j - 1) k e = -(lb i (P 3 j - 1) (tN P (tg P 0 (P 0 0 - 1) k e)) e (if e = 2 ∨ e = 4 then la P 0 40 (P 2 k) else -1))) := by
  have hs' := hs
  obtain ⟨s0, s1, s2, s3, s4⟩ := hs
  have aj := h.af (k := j) (by omega) s2
  have hn := h.n0
  have pk := h.pr (k := k) (by omega) (by omega)
  have lr := la_reg h s0 40 (P 2 k) (by omega)
  have l0 := la_rng h (f := 0) (by omega) 40 (P 2 k) (by omega)
  by_cases c1 : e = 1
  · subst c1
    unfold tg
    rw [if_pos rfl, if_pos rfl, if_neg (show ¬ ((1 : Int) = 2 ∨ (1 : Int) = 4) by omega), bh_reg h hs' 40 k h1 h2]
    rcases lb_end (x := bh P 0 (P 0 0 - 1) 40 k) (f := i) (t := P 3 j - 1) (P := P) s0 (by omega) (is := 1) (lo := -1) (Or.inl rfl) with ⟨q1, q2⟩ | ⟨q1, q2⟩
    · exact Or.inl ⟨q1, q2⟩
    · refine Or.inr ⟨by rw [q1]; exact Or.inl rfl, by rw [q1, q2]⟩
  · by_cases c8 : e = 8
    · subst c8
      right
      have e1 : tg P i (P 3 j - 1) k 8 = -8 := by unfold tg; rw [if_neg (by omega), if_pos (Or.inl rfl)]
      have e2 : lb i (P 3 j - 1) (tN P (tg P 0 (P 0 0 - 1) k 8)) 8 (if (8 : Int) = 2 ∨ (8 : Int) = 4 then la P 0 40 (P 2 k) else -1) = 8 := by
        unfold lb
        rw [if_neg (show ¬ ((8 : Int) = 2 ∨ (8 : Int) = 4) by omega), if_pos (by omega)]
      rw [e2]
      exact ⟨Or.inr (Or.inr (Or.inr rfl)), e1⟩
    · have e24 : e = 2 ∨ e = 4 := by unfold e4 at he; omega
      have nl := hl e24
      rw [if_pos e24]
      by_cases c : i ≤ la P 0 40 (P 2 k)
      · rw [if_pos c] at lr
        rcases e24 with rfl | rfl
        · have t1 : tg P i (P 3 j - 1) k 2 = cut i (P 3 j - 1) (bh P 0 (P 0 0 - 1) 40 (la P 0 40 (P 2 k))) := by
            unfold tg
            rw [if_neg (by omega), if_neg (by omega), if_pos rfl, lr]
            exact bh_reg h hs' 40 _ c (by omega)
          have t0 : tg P 0 (P 0 0 - 1) k 2 = bh P 0 (P 0 0 - 1) 40 (la P 0 40 (P 2 k)) := by
            unfold tg
            rw [if_neg (by omega), if_neg (by omega), if_pos rfl]
          rw [t1, t0]
          rcases lb_end (x := bh P 0 (P 0 0 - 1) 40 (la P 0 40 (P 2 k))) (f := i) (t := P 3 j - 1) (P := P) s0 (by omega) (is := 2) (lo := la P 0 40 (P 2 k)) (Or.inr ⟨nl, c, by omega⟩) with ⟨q1, q2⟩ | ⟨q1, q2⟩
          · exact Or.inl ⟨q1, q2⟩
          · exact Or.inr ⟨by rw [q1]; exact Or.inl rfl, by rw [q1, q2]⟩
        · have t1 : tg P i (P 3 j - 1) k 4 = la P 0 40 (P 2 k) := by
            unfold tg
            rw [if_neg (by omega), if_neg (by omega), if_neg (by omega), lr]
          have t0 : tg P 0 (P 0 0 - 1) k 4 = la P 0 40 (P 2 k) := by
            unfold tg
            rw [if_neg (by omega), if_neg (by omega), if_neg (by omega)]
          rw [t1, t0]
          left
          have : tN P (la P 0 40 (P 2 k)) = la P 0 40 (P 2 k) := by unfold tN; rw [if_neg (by omega)]
          rw [this]
          refine ⟨?_, rfl⟩
          unfold lb
          rw [if_neg (by omega), if_pos (by omega)]
      · rw [if_neg c] at lr
        right
        have t1 : tg P i (P 3 j - 1) k e = -e := by
          unfold tg
          rw [if_neg c1, if_pos (Or.inr lr)]
        have e2 : lb i (P 3 j - 1) (tN P (tg P 0 (P 0 0 - 1) k e)) e (la P 0 40 (P 2 k)) = e := by
          unfold lb
          rw [if_pos (by omega)]
        rw [e2]
        exact ⟨he, t1⟩
/-- the ways of a node in a span are its edges there -/
theorem way_reg (h : WF P) {M : sl_M} {b i j k : Int} (hs : isp P i j) (h1 : i ≤ k) (h2 : k < P 3 j) (hW : WYk M b P k) (hl : ∀ e, (e = 2 ∨ e = 4) → P 1 k ≠ 5 → P 1 k ≠ 6 → iand (P 20 k) e ≠ 0 → la P 0 40 (P 2 k) ≠ -1) :
    (∀ w, 0 ≤ w → w < M 1 25 (b + k) → (lb i (P 3 j - 1) (M 1 26 (4 * (b + k) + w)) (M 1 28 (4 * (b + k) + w)) (M 1 29 (4 * (b + k) + w)) = 0 ∧ Ed P i (P 3 j - 1) k (M 1 26 (4 * (b + k) + w)) (M 1 27 (4 * (b + k) + w)) ∧ 0 ≤ M 1 26 (4 * (b + k) + w)) ∨ (e4 (lb i (P 3 j - 1) (M 1 26 (4 * (b + k) + w)) (M 1 28 (4 * (b + k) + w)) (M 1 29 (4 * (b + k) + w))) ∧ Ed P i (P 3 j - 1) k (-(lb i (P 3 j - 1) (M 1 26 (4 * (b + k) + w)) (M 1 28 (4 * (b + k) + w)) (M 1 29 (4 * (b + k) + w)))) (M 1 27 (4 * (b + k) + w)))) ∧
    (∀ x S, Ed P i (P 3 j - 1) k x S → ∃ w, 0 ≤ w ∧ w < M 1 25 (b + k) ∧ M 1 27 (4 * (b + k) + w) = S ∧ ((lb i (P 3 j - 1) (M 1 26 (4 * (b + k) + w)) (M 1 28 (4 * (b + k) + w)) (M 1 29 (4 * (b + k) + w)) = 0 ∧ x = M 1 26 (4 * (b + k) + w)) ∨ (e4 (lb i (P 3 j - 1) (M 1 26 (4 * (b + k) + w)) (M 1 28 (4 * (b + k) + w)) (M 1 29 (4 * (b + k) + w))) ∧ x = -(lb i (P 3 j - 1) (M 1 26 (4 * (b + k) + w)) (M 1 28 (4 * (b + k) + w)) (M 1 29 (4 * (b + k) + w)))))) := by
  have hs' := hs
  obtain ⟨s0, s1, s2, s3, s4⟩ := hs
  have aj := h.af (k := j) (by omega) s2
  have hn := h.n0
  have tnp : ∀ x, 0 ≤ tN P x := fun x => by unfold tN; split <;> omega
  obtain ⟨w1, w2⟩ := hW
  by_cases c : P 1 k = 5 ∨ P 1 k = 6
  · obtain ⟨a, d⟩ := w1 c
    have key : ∀ s, (s = 0 ∨ s = 1) → (lb i (P 3 j - 1) (M 1 26 (4 * (b + k) + s)) (M 1 28 (4 * (b + k) + s)) (M 1 29 (4 * (b + k) + s)) = 0 ∧ en P i (P 3 j - 1) k s = M 1 26 (4 * (b + k) + s)) ∨ (lb i (P 3 j - 1) (M 1 26 (4 * (b + k) + s)) (M 1 28 (4 * (b + k) + s)) (M 1 29 (4 * (b + k) + s)) = 1 ∧ en P i (P 3 j - 1) k s = -1) := by
      intro s hs1
      obtain ⟨q1, q2, q3, q4⟩ := d s hs1
      rw [q1, q3, q4, en_reg h hs' h1 h2]
      exact lb_end s0 (by omega) (Or.inl rfl)
    refine ⟨fun w v1 v2 => ?_, fun x S he => ?_⟩
    · have hw1 : w = 0 ∨ w = 1 := by omega
      obtain ⟨q1, q2, q3, q4⟩ := d w hw1
      have E : Ed P i (P 3 j - 1) k (en P i (P 3 j - 1) k w) 0 := Or.inl ⟨c, rfl, by rcases hw1 with rfl | rfl; exact Or.inl rfl; exact Or.inr rfl⟩
      rcases key w hw1 with ⟨z1, z2⟩ | ⟨z1, z2⟩
      · refine Or.inl ⟨z1, ?_, by rw [q1]; exact tnp _⟩
        rw [q2, ← z2]; exact E
      · refine Or.inr ⟨by rw [z1]; exact Or.inl rfl, ?_⟩
        rw [z1, q2, ← z2]; exact E
    · rcases he with ⟨-, rfl, he⟩ | ⟨q1, q2, -⟩
      · obtain ⟨s, hs1, hx⟩ : ∃ s, (s = 0 ∨ s = 1) ∧ x = en P i (P 3 j - 1) k s := by
          rcases he with q | q
          · exact ⟨0, Or.inl rfl, q⟩
          · exact ⟨1, Or.inr rfl, q⟩
        obtain ⟨q1, q2, q3, q4⟩ := d s hs1
        refine ⟨s, by omega, by omega, q2, ?_⟩
        rcases key s hs1 with ⟨z1, z2⟩ | ⟨z1, z2⟩
        · exact Or.inl ⟨z1, by rw [hx, z2]⟩
        · exact Or.inr ⟨by rw [z1]; exact Or.inl rfl, by rw [z1, hx, z2]⟩
      · rcases c with c | c
        · exact absurd c q1
        · exact absurd c q2
  · have n5 : P 1 k ≠ 5 := fun z => c (Or.inl z)
    have n6 : P 1 k ≠ 6 := fun z => c (Or.inr z)
    obtain ⟨a, d, f⟩ := w2 n5 n6
    refine ⟨fun w v1 v2 => ?_, fun x S he => ?_⟩
    · obtain ⟨e, e1, e2, g1, g2, g3, g4⟩ := f w v1 v2
      have E : Ed P i (P 3 j - 1) k (tg P i (P 3 j - 1) k e) (P 21 (16 * k + e)) := Or.inr ⟨n5, n6, e, e1, e2, rfl, rfl⟩
      rw [g1, g2, g3, g4]
      rcases lb_tg h hs' h1 h2 e1 (fun z => hl e z n5 n6 e2) with ⟨z1, z2⟩ | ⟨z1, z2⟩
      · refine Or.inl ⟨z1, ?_, tnp _⟩
        rw [← z2]; exact E
      · refine Or.inr ⟨z1, ?_⟩
        rw [← z2]; exact E
    · rcases he with ⟨q, -⟩ | ⟨-, -, e, e1, e2, rfl, rfl⟩
      · exact absurd q c
      · obtain ⟨w, v1, v2, g1, g2, g3, g4⟩ := d e e1 e2
        refine ⟨w, v1, v2, g3, ?_⟩
        rw [g1, g2, g4]
        rcases lb_tg h hs' h1 h2 e1 (fun z => hl e z n5 n6 e2) with ⟨z1, z2⟩ | ⟨z1, z2⟩
        · exact Or.inl ⟨z1, z2⟩
        · exact Or.inr ⟨z1, z2⟩
end R
section K
variable {l : Launch} {M : sl_M} {Q : sl_R}
theorem kX10_leavesBy {b w : Int} (hw : 0 ≤ w ∧ w < 328) (ht : sl_rg (M 1 0 32 - 1)) (hQ : Q (some (vI (lb (M 1 0 31) (M 1 0 32 - 1) (M 1 26 w) (M 1 28 w) (M 1 29 w)))) M) : sl_Runs l mX10_leavesBy [vR 1 0, vI b, vI w] M Q := by
  have J : (M 1 28 w = 1 ∨ (M 1 29 w ≠ -1 ∧ M 1 0 31 ≤ M 1 29 w ∧ M 1 29 w ≤ M 1 0 32 - 1)) → sl_At l mX10_leavesBy 68 [(0, vR 1 0), (3, vI (M 1 26 w))] [] M Q := by
    intro hc
    refine vX10_leavesBy_68 fun _ _ => ⟨ht, ?_⟩
    unfold lb at hQ
    rw [if_neg (by omega)] at hQ
    by_cases c : M 1 0 31 ≤ M 1 26 w ∧ M 1 26 w ≤ M 1 0 32 - 1
    · rw [if_pos c] at hQ; rw [if_neg (fun z => z c)]; exact hQ
    · rw [if_neg c] at hQ; rw [if_pos c]; exact hQ
  refine eX10_leavesBy (vX10_leavesBy_0 fun _ _ => ⟨hw, fun q => ?_, fun q => ⟨ht, fun y ey => ⟨fun q2 => J (Or.inl q2), fun q2 => ⟨fun q3 => J (Or.inr ⟨q, q3.1, q3.2⟩), fun q3 => ?_⟩⟩⟩⟩)
  · refine vX10_leavesBy_43 fun _ _ _ => ⟨hw, fun q2 => J (Or.inl q2), fun q2 => ⟨fun z => absurd rfl z, fun _ => ?_⟩⟩
    unfold lb at hQ
    rw [if_pos (by omega)] at hQ
    exact hQ
  · unfold lb at hQ
    rw [if_pos (by omega)] at hQ
    exact hQ
end K
