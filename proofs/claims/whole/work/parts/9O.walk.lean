/-! Walks: statements are done one after another -/
theorem eK_4 (x : Int) : e4 (eK x) := by
  unfold eK e4
  by_cases a : x = 2
  · rw [if_pos a]; omega
  · rw [if_neg a]
    by_cases b : x = 3
    · rw [if_pos b]; omega
    · rw [if_neg b]
      by_cases c : x = 4
      · rw [if_pos c]; omega
      · rw [if_neg c]; omega
theorem eK_and (x : Int) : iand (eK x) (eK x) ≠ 0 := by
  rcases eK_4 x with e | e | e | e <;> rw [e] <;> decide
theorem eK_one {x e : Int} (he : e4 e) (h : iand (eK x) e ≠ 0) : e = eK x := by
  rcases eK_4 x with a | a | a | a <;> rw [a] at h ⊢ <;> rcases he with b | b | b | b <;> subst b <;> first | rfl | (revert h; decide)
theorem wkA_s {P : Pg} {f t : Int} {n : Nat} {k : Int} {D : Int → Int} {B : Int} {g : Gs} : wkA P f t (n + 1) k D B g = if (stA P f t k D B g).1 ≠ 0 ∨ (stA P f t k D B g).2.1 < 0 then stA P f t k D B g else wkA P f t n (stA P f t k D B g).2.1 (stA P f t k D B g).2.2.1 (stA P f t k D B g).2.2.2.1 (stA P f t k D B g).2.2.2.2 := rfl
section W
variable {P P' : Pg} {f f' n : Int}
theorem nx_ed {t k v : Int} (h20 : P 20 k = eK (P 1 k)) : ∃ S, Ed P f t k (nxA P f t k v) S ∧ ((S = 0 ∧ (P 1 k = 5 ∨ P 1 k = 6)) ∨ (S = P 21 (16 * k + eK (P 1 k)) ∧ ¬ (P 1 k = 5 ∨ P 1 k = 6))) := by
  unfold nxA
  by_cases c : P 1 k = 5 ∨ P 1 k = 6
  · rw [if_pos c]
    refine ⟨0, Or.inl ⟨c, rfl, ?_⟩, Or.inl ⟨rfl, c⟩⟩
    by_cases d : v = 0
    · rw [if_pos d]; exact Or.inr rfl
    · rw [if_neg d]; exact Or.inl rfl
  · rw [if_neg c]
    exact ⟨_, Or.inr ⟨by omega, by omega, eK (P 1 k), eK_4 _, by rw [h20]; exact eK_and _, rfl, rfl⟩, Or.inr ⟨rfl, c⟩⟩
theorem nx_rl (h : RG P f n) (h' : RG P' f' n) (hi : Iso P f P' f' n) {x v : Int} (x0 : 0 ≤ x) (x1 : x < n) : rl f f' n (nxA P f (f + n - 1) (f + x) v) (nxA P' f' (f' + n - 1) (f' + x) v) := by
  unfold nxA
  rw [← (hi x x0 x1).1]
  by_cases c : P 1 (f + x) = 5 ∨ P 1 (f + x) = 6
  · rw [if_pos c, if_pos c]; exact iso_en h h' hi x0 x1
  · rw [if_neg c, if_neg c]; exact iso_tg h h' hi x0 x1 (eK_4 _)
theorem st_iso (h : RG P f n) (h' : RG P' f' n) (hi : Iso P f P' f' n) (hs : ∀ x, 0 ≤ x → x < n → P 6 (f + x) = P' 6 (f' + x) ∧ P 11 (f + x) = P' 11 (f' + x) ∧ Sy P (f + x) = Sy P' (f' + x)) {x : Int} (x0 : 0 ≤ x) (x1 : x < n) {D : Int → Int} {B : Int} {g : Gs} : (stA P f (f + n - 1) (f + x) D B g).1 = (stA P' f' (f' + n - 1) (f' + x) D B g).1 ∧ (stA P f (f + n - 1) (f + x) D B g).2.2 = (stA P' f' (f' + n - 1) (f' + x) D B g).2.2 ∧ rl f f' n (stA P f (f + n - 1) (f + x) D B g).2.1 (stA P' f' (f' + n - 1) (f' + x) D B g).2.1 := by
  obtain ⟨h6, h11, h12⟩ := hs x x0 x1
  have h1 := (hi x x0 x1).1
  have ee : evA P (f + x) D B = evA P' (f' + x) D B := by unfold evA; rw [h12, h11]
  unfold stA
  rw [← ee]
  by_cases c : g.2.1 = 400
  · rw [if_pos c, if_pos c]; exact ⟨rfl, rfl, Or.inl ⟨by show (-1 : Int) < 0; omega, rfl⟩⟩
  · rw [if_neg c, if_neg c]
    by_cases c2 : (evA P (f + x) D B).1 ≠ 0
    · rw [if_pos c2, if_pos c2]; exact ⟨rfl, rfl, Or.inl ⟨by show (-1 : Int) < 0; omega, rfl⟩⟩
    · rw [if_neg c2, if_neg c2]
      refine ⟨rfl, ?_, nx_rl h h' hi x0 x1⟩
      show (dS P (f + x) _ D, bS P (f + x) B, gS (P 1 (f + x)) _ g) = (dS P' (f' + x) _ D, bS P' (f' + x) B, gS (P' 1 (f' + x)) _ g)
      unfold dS bS
      rw [h6, h1]
theorem wk_iso (h : RG P f n) (h' : RG P' f' n) (hi : Iso P f P' f' n) (hs : ∀ x, 0 ≤ x → x < n → P 6 (f + x) = P' 6 (f' + x) ∧ P 11 (f + x) = P' 11 (f' + x) ∧ Sy P (f + x) = Sy P' (f' + x)) : ∀ (m : Nat) (x : Int) (D : Int → Int) (B : Int) (g : Gs), 0 ≤ x → x < n → wkA P f (f + n - 1) m (f + x) D B g = wkA P' f' (f' + n - 1) m (f' + x) D B g := by
  intro m
  induction m with
  | zero => intro x D B g _ _; rfl
  | succ m ih =>
    intro x D B g x0 x1
    obtain ⟨a1, a2, a3⟩ := st_iso (D := D) (B := B) (g := g) h h' hi hs x0 x1
    unfold wkA
    rw [← a1]
    rcases a3 with ⟨b1, b2⟩ | ⟨b1, b2, b3⟩
    · rw [if_pos (Or.inr b1), if_pos (Or.inr (by rw [b2]; exact b1))]
      exact Prod.ext a1 (Prod.ext b2.symm a2)
    · have f0 := h.2.1
      have f0' := h'.2.1
      by_cases c : (stA P f (f + n - 1) (f + x) D B g).1 ≠ 0
      · rw [if_pos (Or.inl c), if_pos (Or.inl c)]
        -- a failure goes nowhere
        exfalso
        have : (stA P f (f + n - 1) (f + x) D B g).2.1 = -1 := by
          revert c; unfold stA
          by_cases c1 : g.2.1 = 400
          · rw [if_pos c1]; intro _; rfl
          · rw [if_neg c1]
            by_cases c2 : (evA P (f + x) D B).1 ≠ 0
            · rw [if_pos c2]; intro _; rfl
            · rw [if_neg c2]; intro q; exact (q rfl).elim
        omega
      · rw [if_neg (by omega), if_neg (by omega)]
        have e1 : (stA P f (f + n - 1) (f + x) D B g).2.1 = f + ((stA P f (f + n - 1) (f + x) D B g).2.1 - f) := by omega
        have e2 : (stA P' f' (f' + n - 1) (f' + x) D B g).2.1 = f' + ((stA P f (f + n - 1) (f + x) D B g).2.1 - f) := by omega
        rw [e1, e2, ← a2]
        exact ih _ _ _ _ (by omega) (by omega)
theorem nx_in (h : RG P f n) {x v : Int} (x0 : 0 ≤ x) (x1 : x < n) : nxA P f (f + n - 1) (f + x) v < 0 ∨ (f ≤ nxA P f (f + n - 1) (f + x) v ∧ nxA P f (f + n - 1) (f + x) v < f + n) := by
  have idn : Iso P f P f n := fun y y0 y1 => ⟨rfl, rfl, by
    rcases Int.lt_or_le (P 2 (f + y)) f with a | a
    · exact Or.inl ⟨a, a⟩
    · exact Or.inr ⟨a, a, rfl, rfl⟩⟩
  rcases nx_rl (v := v) h h idn x0 x1 with ⟨a, -⟩ | ⟨a, b, -⟩
  · exact Or.inl a
  · exact Or.inr ⟨a, b⟩
theorem nx_out (h : RG P f n) {x v : Int} (x0 : 0 ≤ x) (x1 : x < n) (h20 : P 20 (f + x) = eK (P 1 (f + x))) (hx : nxA P f (f + n - 1) (f + x) v < 0) : ∃ e, e4 e ∧ nxA P f (f + n - 1) (f + x) v = -e := by
  obtain ⟨S, hE, -⟩ := nx_ed (f := f) (t := f + n - 1) (v := v) h20
  have := ed_out h.1 h.rg (k := f + x) (by omega) hE hx
  rcases this with a | a | a | a
  · exact ⟨1, Or.inl rfl, a⟩
  · exact ⟨2, Or.inr (Or.inl rfl), a⟩
  · exact ⟨4, Or.inr (Or.inr (Or.inl rfl)), a⟩
  · exact ⟨8, Or.inr (Or.inr (Or.inr rfl)), a⟩
/-- where a statement done goes on -/
theorem st_nx (h : RG P f n) {x : Int} (x0 : 0 ≤ x) (x1 : x < n) (h20 : P 20 (f + x) = eK (P 1 (f + x))) {D : Int → Int} {B : Int} {g : Gs} : ((stA P f (f + n - 1) (f + x) D B g).1 ≠ 0 → (stA P f (f + n - 1) (f + x) D B g).2.1 = -1) ∧ ((∃ e, e4 e ∧ (stA P f (f + n - 1) (f + x) D B g).2.1 = -e) ∨ (f ≤ (stA P f (f + n - 1) (f + x) D B g).2.1 ∧ (stA P f (f + n - 1) (f + x) D B g).2.1 < f + n)) ∧ ((stA P f (f + n - 1) (f + x) D B g).1 = 0 → (stA P f (f + n - 1) (f + x) D B g).2.1 = nxA P f (f + n - 1) (f + x) (evA P (f + x) D B).2 ∧ (stA P f (f + n - 1) (f + x) D B g).2.2.2.1 = bS P (f + x) B ∧ (evA P (f + x) D B).1 = 0) := by
  unfold stA
  by_cases c : g.2.1 = 400
  · rw [if_pos c]; exact ⟨fun _ => rfl, Or.inl ⟨1, Or.inl rfl, rfl⟩, fun q => by revert q; show (4 : Int) = 0 → _; intro q; omega⟩
  · rw [if_neg c]
    by_cases c2 : (evA P (f + x) D B).1 ≠ 0
    · rw [if_pos c2]; exact ⟨fun _ => rfl, Or.inl ⟨1, Or.inl rfl, rfl⟩, fun q => (c2 q).elim⟩
    · rw [if_neg c2]
      refine ⟨fun q => (q rfl).elim, ?_, fun _ => ⟨rfl, rfl, Classical.byContradiction c2⟩⟩
      show (∃ e, e4 e ∧ nxA P f (f + n - 1) (f + x) (evA P (f + x) D B).2 = -e) ∨ (f ≤ nxA P f (f + n - 1) (f + x) (evA P (f + x) D B).2 ∧ nxA P f (f + n - 1) (f + x) (evA P (f + x) D B).2 < f + n)
      rcases nx_in (v := (evA P (f + x) D B).2) h x0 x1 with a | a
      · exact Or.inl (nx_out h x0 x1 h20 a)
      · exact Or.inr a
end W
section K
variable {l : Launch} {M : sl_M} {Q : sl_R} {P T : Pg} {c : Nat}
theorem kX3_walk (hc : sl_cls c = 0) (hC : Cd M c P) (hS : CdS M c P) (hr : RG P 0 (P 0 0)) (h7 : ∀ k, 0 ≤ k → k < P 0 0 → P 1 k ≠ 7 ∧ EV P k ∧ P 20 k = eK (P 1 k)) {D : Int → Int} {B : Int} {g : Gs} (hg : gI g) (h0 : M 3 0 6 = 0) (hF : CFr M 5 D B) (hG : CG M g) {m : Nat} (hm : g.2.1 + (m : Int) = 401)
    (hQ : ∀ N, (∀ a b d, a ≠ 3 → a ≠ 5 → N a b d = M a b d) → CRs N 5 (wkA P 0 (P 0 0 - 1) m 0 D B g) → Q (some (vI (-(wkA P 0 (P 0 0 - 1) m 0 D B g).2.1))) N) : sl_Runs l mX3_walk [vR 3 0, vR c 0] M Q := by
  have hw := hr.1
  have n1 := hr.2.2.1
  have hn := hw.n0
  have c3 : c ≠ 3 := fun z => by rw [z] at hc; revert hc; decide +kernel
  have c5 : c ≠ 5 := fun z => by rw [z] at hc; revert hc; decide +kernel
  have loop : ∀ (m' : Nat) (k x : Int) (N : sl_M) (D' : Int → Int) (B' : Int) (g' : Gs), g'.2.1 + (m' : Int) = 401 → (0 ≤ k ∧ k < P 0 0) → 0 ≤ x → x + (m' : Int) ≤ 401 → gI g' → N 3 0 6 = 0 → CFr N 5 D' B' → CG N g' → (∀ a b d, a ≠ 3 → a ≠ 5 → N a b d = M a b d) → wkA P 0 (P 0 0 - 1) m' k D' B' g' = wkA P 0 (P 0 0 - 1) m 0 D B g → sl_At l mX3_walk 15 [(0, vR 3 0), (1, vR c 0), (2, vI k), (3, vI x)] [] N Q := by
    intro m'
    induction m' with
    | zero => intro k x N D' B' g' hm' hk x0 x1 hg'; exact absurd hg'.2.2 (by omega)
    | succ m' ih =>
      intro k x N D' B' g' hm' hk x0 x1 hg' hz hF' hG' fN eW
      have hC' : Cd N c P := by
        have : ∀ i j, N c i j = M c i j := fun i j => fN _ _ _ c3 c5
        unfold Cd; simp only [this]; exact hC
      have hS' : CdS N c P := hS.frame (fun i j => fN _ _ _ c3 c5)
      obtain ⟨k7, kE, k20⟩ := h7 k hk.1 hk.2
      refine vX3_walk_15 hc fun _ _ _ => ⟨fun q => by omega, fun _ => ⟨fun q => by omega, fun _ => ?_⟩⟩
      refine kX3_step hc (Or.inr rfl) hw hC' hS' hk k7 kE hg' hz hF' hG' (fun O fO rO' => ⟨_, rfl, by omega, ?_⟩)
      have s := st_nx (x := k) (n := P 0 0) (D := D') (B := B') (g := g') hr hk.1 hk.2 (by rw [Int.zero_add]; exact k20)
      rw [Int.zero_add, Int.zero_add] at s
      obtain ⟨s1, s2, s3⟩ := s
      have fO' : ∀ a b d, a ≠ 3 → a ≠ 5 → O a b d = M a b d := fun a b d q1 q2 => by rw [fO a b d q1 q2]; exact fN a b d q1 q2
      have eW' := eW
      rw [wkA_s] at eW
      by_cases e : (stA P 0 (P 0 0 - 1) k D' B' g').1 ≠ 0 ∨ (stA P 0 (P 0 0 - 1) k D' B' g').2.1 < 0
      · rw [if_pos e] at eW
        rw [← eW] at hQ
        have neg : (stA P 0 (P 0 0 - 1) k D' B' g').2.1 < 0 := by
          rcases e with e | e
          · rw [s1 e]; omega
          · exact e
        have hd : Q (some (vI (-(stA P 0 (P 0 0 - 1) k D' B' g').2.1))) O := hQ O fO' rO'
        have bd : ∃ e, e4 e ∧ (stA P 0 (P 0 0 - 1) k D' B' g').2.1 = -e := by
          rcases s2 with a | a
          · exact a
          · omega
        obtain ⟨ee, b1, b2⟩ := bd
        unfold e4 at b1
        refine vX3_walk_15 hc fun _ _ _ => ⟨fun q => by omega, fun _ => ⟨fun q => ?_, fun q => (q neg).elim⟩⟩
        rw [if_neg (by omega)]
        exact ⟨by omega, hd⟩
      · rw [if_neg e] at eW
        have e0 : (stA P 0 (P 0 0 - 1) k D' B' g').1 = 0 := by omega
        obtain ⟨gi, gs⟩ := hg'.stp (P := P) (f := 0) (t := P 0 0 - 1) (k := k) (D := D') (B := B')
        obtain ⟨r1, r2, r3⟩ := rO'
        rw [if_pos e0] at r1
        refine ih _ (x + 1) O _ _ _ (by rw [gs e0]; omega) ?_ (by omega) (by omega) gi r1 r2 r3 fO' eW
        rcases s2 with ⟨ee, a, b⟩ | a
        · unfold e4 at a; omega
        · omega
  refine eX3_walk (vX3_walk_0 hc fun _ y ey => ?_)
  rw [hC.1, if_neg (by omega)] at ey
  rw [ey]
  exact loop m 0 0 M D B g hm (by omega) (by omega) (by have := hg.1; have := hg.2.1; omega) hg h0 hF hG (fun _ _ _ _ _ => rfl) rfl
end K
