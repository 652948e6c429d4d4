/-! Code: the readers -/
def Cd (M : sl_M) (c : Nat) (P : Pg) : Prop := M c 0 11 = P 0 0 ∧ ∀ k, 0 ≤ k → k < P 0 0 → M c 1 k = P 1 k ∧ M c 2 k = P 2 k ∧ k + M c 3 k + 1 = P 3 k ∧ M c 4 k = P 4 k
section K
variable {l : Launch} {M : sl_M} {Q : sl_R} {c : Nat} {P : Pg}
theorem kX0_behind (hc : sl_cls c = 0) (h : WF P) (hC : Cd M c P) {k f t : Int} (hk : 0 ≤ k ∧ k < P 0 0) (hf : 0 ≤ f) (ht : t < P 0 0) (hQ : Q (some (vI (bh P f t 40 k))) M) : sl_Runs l mX0_behind [vR c 0, vI k, vI f, vI t] M Q := by
  have hn := h.n0
  have loop : ∀ (m : Nat) (a x : Int), m ≤ 40 → x = 40 - (m : Int) → 0 ≤ a → a < P 0 0 → Q (some (vI (bh P f t m a))) M → sl_At l mX0_behind 6 [(0, vR c 0), (2, vI f), (3, vI t), (4, vI a), (5, vI x)] [] M Q := by
    intro m
    induction m with
    | zero =>
      intro a x hm hx h0 h1 hQ
      refine vX0_behind_6 hc fun _ _ _ _ _ => ⟨fun _ => hQ, fun q => by omega⟩
    | succ m ih =>
      intro a x hm hx h0 h1 hQ
      obtain ⟨e1, e2, e3, e4⟩ := hC.2 a h0 h1
      have w1 := h.pr h0 h1
      have w2 := h.af h0 h1
      have J : ¬ (P 3 a ≤ t ∧ P 2 (P 3 a) = P 2 a ∧ P 4 (P 3 a) = P 4 a) → sl_At l mX0_behind 70 [(0, vR c 0), (2, vI f), (3, vI t), (4, vI a), (5, vI x)] [] M Q := by
        intro hn1
        rw [bh, if_neg hn1] at hQ
        refine vX0_behind_70 hc fun _ _ _ _ _ => ⟨by omega, ?_⟩
        rw [e2]
        refine ⟨fun q => ?_, fun q => ⟨fun q2 => ⟨by omega, ?_⟩, fun q2 => ?_⟩⟩
        · rw [if_pos (by omega)] at hQ; exact hQ
        · rw [if_neg (by omega)] at hQ
          rw [(hC.2 (P 2 a) (by omega) (by omega)).1]
          refine ⟨fun q3 => ⟨by omega, ?_⟩, fun q3 => ?_⟩
          · rw [if_neg q3] at hQ
            exact ih (P 2 a) (x + 1) (by omega) (by omega) (by omega) (by omega) hQ
          · rw [if_pos (by omega)] at hQ; exact hQ
        · rw [if_pos (by omega)] at hQ; exact hQ
      refine vX0_behind_6 hc fun _ _ _ _ _ => ⟨fun q => by omega, fun _ => ⟨by omega, by omega, fun y ey => ?_⟩⟩
      have ey : y = P 3 a := by omega
      subst ey
      refine ⟨fun q => J (by omega), fun q => ⟨by omega, ?_⟩⟩
      obtain ⟨g1, g2, g3, g4⟩ := hC.2 (P 3 a) (by omega) (by omega)
      rw [g2, e2, g4, e4]
      refine ⟨fun q2 => J (fun z => q2 z.2.1), fun q2 => ⟨fun q3 => J (fun z => q3 z.2.2), fun q3 => ?_⟩⟩
      rw [bh, if_pos ⟨by omega, by omega, by omega⟩] at hQ
      exact hQ
  exact eX0_behind (vX0_behind_0 hc fun _ _ _ _ => loop 40 k 0 (by omega) (by omega) hk.1 hk.2 hQ)
theorem kX0_loopAround (hc : sl_cls c = 0) (h : WF P) (hC : Cd M c P) {k f : Int} (hk : 0 ≤ k ∧ k < P 0 0) (hQ : Q (some (vI (la P f 40 (P 2 k)))) M) : sl_Runs l mX0_loopAround [vR c 0, vI k, vI f] M Q := by
  have hn := h.n0
  have loop : ∀ (m : Nat) (u x : Int), m ≤ 40 → x = 40 - (m : Int) → u < P 0 0 → Q (some (vI (la P f m u))) M → sl_At l mX0_loopAround 10 [(0, vR c 0), (2, vI f), (3, vI u), (4, vI x)] [] M Q := by
    intro m
    induction m with
    | zero =>
      intro u x hm hx h1 hQ
      refine vX0_loopAround_10 hc fun _ _ _ _ => ⟨fun _ => hQ, fun q => by omega⟩
    | succ m ih =>
      intro u x hm hx h1 hQ
      rw [la] at hQ
      refine vX0_loopAround_10 hc fun _ _ _ _ => ⟨fun q => by omega, fun _ => ⟨fun q => ?_, fun q => ⟨fun q2 => ?_, fun q2 => ⟨by omega, ?_⟩⟩⟩⟩
      · rw [if_pos (by omega)] at hQ; exact hQ
      · rw [if_pos (by omega)] at hQ; exact hQ
      · rw [if_neg (by omega)] at hQ
        obtain ⟨e1, e2, e3, e4⟩ := hC.2 u (by omega) h1
        have w1 := h.pr (k := u) (by omega) h1
        rw [e1, e2]
        refine ⟨fun q3 => ⟨by omega, ?_⟩, fun q3 => ?_⟩
        · rw [if_neg q3] at hQ
          exact ih (P 2 u) (x + 1) (by omega) (by omega) (by omega) hQ
        · rw [if_pos (by omega)] at hQ; exact hQ
  have w1 := h.pr hk.1 hk.2
  obtain ⟨e1, e2, e3, e4⟩ := hC.2 k hk.1 hk.2
  refine eX0_loopAround (vX0_loopAround_0 hc fun _ _ _ => ⟨by omega, ?_⟩)
  rw [e2]
  exact loop 40 (P 2 k) 0 (by omega) (by omega) (by omega) hQ
theorem kX0_target (hc : sl_cls c = 0) (h : WF P) (hC : Cd M c P) {k e f t : Int} (hk : 0 ≤ k ∧ k < P 0 0) (he : e = 1 ∨ e = 2 ∨ e = 4 ∨ e = 8) (hf : 0 ≤ f) (ht : t < P 0 0) (hQ : Q (some (vI (tg P f t k e))) M) : sl_Runs l mX0_target [vR c 0, vI k, vI e, vI f, vI t] M Q := by
  have w1 := h.pr hk.1 hk.2
  have hn := h.n0
  unfold tg at hQ
  refine eX0_target (vX0_target_0 hc fun _ _ _ _ _ => ⟨fun q => ⟨fun q2 => ?_, fun q2 => ?_⟩, fun q => ?_⟩)
  · rw [if_neg q] at hQ
    refine kX0_loopAround hc h hC hk ⟨_, rfl, ?_⟩
    have hr := la_rng h hf 40 (P 2 k) (by omega)
    refine vX0_target_30 hc (by omega) fun _ _ _ _ => ⟨fun q3 => ?_, fun q3 => ⟨by omega, ?_⟩⟩
    · rw [if_neg (by omega)] at hQ
      refine ⟨fun q4 => ?_, fun q4 => ?_⟩
      · rw [if_neg q4] at hQ; exact hQ
      · rw [if_pos (by omega)] at hQ
        exact kX0_behind hc h hC (by omega) hf ht ⟨_, rfl, hQ⟩
    · rw [if_pos (by omega)] at hQ; exact hQ
  · rw [if_neg q, if_pos (by omega)] at hQ
    exact vX0_target_30 hc (by omega) fun _ _ _ _ => ⟨fun q3 => by omega, fun q3 => ⟨by omega, hQ⟩⟩
  · rw [if_pos (by omega)] at hQ
    exact kX0_behind hc h hC hk hf ht ⟨_, rfl, hQ⟩
theorem kX0_enter (hc : sl_cls c = 0) (h : WF P) (hC : Cd M c P) {k s f t : Int} (hk : 0 ≤ k ∧ k < P 0 0) (hf : 0 ≤ f) (ht : t < P 0 0) (hQ : Q (some (vI (en P f t k s))) M) : sl_Runs l mX0_enter [vR c 0, vI k, vI s, vI f, vI t] M Q := by
  have hn := h.n0
  have w2 := h.af hk.1 hk.2
  obtain ⟨e1, e2, e3, e4⟩ := hC.2 k hk.1 hk.2
  have J : fo P k s 40 (k + 1) = -1 → sl_At l mX0_enter 58 [(0, vR c 0), (1, vI k), (2, vI s), (3, vI f), (4, vI t)] [] M Q := by
    intro hfo
    unfold en at hQ
    rw [if_neg (by omega)] at hQ
    refine vX0_enter_58 hc fun _ _ _ _ _ => ⟨by omega, ?_⟩
    rw [e1]
    refine ⟨fun q => ?_, fun q => ⟨fun q2 => ?_, fun q2 => ?_⟩⟩
    · rw [if_neg (by omega)] at hQ
      exact kX0_behind hc h hC hk hf ht ⟨_, rfl, hQ⟩
    · rw [if_neg (by omega)] at hQ
      exact kX0_behind hc h hC hk hf ht ⟨_, rfl, hQ⟩
    · rw [if_pos (by omega)] at hQ; exact hQ
  have loop : ∀ (m : Nat) (x : Int), (P 3 k - x).toNat ≤ m → k < x → x ≤ P 3 k → (x < P 3 k → P 2 x = k) → (∀ y, k < y → y < x → ¬ (P 2 y = k ∧ P 4 y = s)) → sl_At l mX0_enter 5 [(0, vR c 0), (1, vI k), (2, vI s), (3, vI f), (4, vI t), (5, vI x)] [] M Q := by
    intro m
    induction m with
    | zero =>
      intro x hm h1 h2 h3 h4
      refine vX0_enter_5 hc fun _ _ _ _ _ _ => ⟨by omega, by omega, fun q => J ?_, fun q => by omega⟩
      exact fo_eq h hk.1 hk.2 (Or.inl ⟨rfl, fun y a b => h4 y a (by omega)⟩)
    | succ m ih =>
      intro x hm h1 h2 h3 h4
      refine vX0_enter_5 hc fun _ _ _ _ _ _ => ⟨by omega, by omega, fun q => J ?_, fun q => ?_⟩
      · exact fo_eq h hk.1 hk.2 (Or.inl ⟨rfl, fun y a b => h4 y a (by omega)⟩)
      · have hx : x < P 3 k := by omega
        obtain ⟨g1, g2, g3, g4⟩ := hC.2 x (by omega) (by omega)
        have w3 := h.af (k := x) (by omega) (by omega)
        have w4 := h.ins (j := k) (k := x) hk.1 h1 hx (by omega)
        have hp := h3 hx
        refine ⟨fun q2 => ?_, fun q2 => ⟨by omega, ?_⟩⟩
        · have := hC.1
          omega
        · rw [g4]
          refine ⟨fun q3 => ⟨by omega, fun y ey => ?_⟩, fun q3 => ?_⟩
          · have ey : y = P 3 x := by omega
            subst ey
            refine ih (P 3 x) (by omega) (by omega) w4 (fun z => h.c2 hk.1 hk.2 hp (by omega) (by omega) z) (fun y a b => ?_)
            by_cases c1 : y < x
            · exact h4 y a c1
            · by_cases c2 : y = x
              · subst c2; exact fun z => q3 z.2
              · have := h.in1 (j := x) (k := y) (by omega) (by omega) b (by omega)
                omega
          · have : fo P k s 40 (k + 1) = x := fo_eq h hk.1 hk.2 (Or.inr ⟨h1, hx, hp, by omega, h4⟩)
            unfold en at hQ
            rw [if_pos (by omega), this] at hQ
            exact hQ
  exact eX0_enter (vX0_enter_0 hc fun _ _ _ _ _ => ⟨by omega, fun y ey => by
    subst ey
    exact loop 40 (k + 1) (by omega) (by omega) (by omega) (fun z => h.c1 hk.1 z hk.2) (fun y a b => by omega)⟩)
theorem kX0_holds (hc : sl_cls c = 0) {k : Int} (hQ : Q (some (vI (if 0 ≤ k ∧ k < M c 0 11 then 1 else 0))) M) : sl_Runs l mX0_holds [vR c 0, vI k] M Q := by
  refine eX0_holds (vX0_holds_0 hc fun _ _ => ?_)
  rw [b_congr (R := 0 ≤ k ∧ k < M c 0 11) (by omega)]
  exact hQ
/-- whether i and j bound a span -/
abbrev isp (P : Pg) (i j : Int) : Prop := 0 ≤ i ∧ i ≤ j ∧ j < P 0 0 ∧ P 2 i = P 2 j ∧ P 4 i = P 4 j
theorem kX0_isSpan (hc : sl_cls c = 0) (hC : Cd M c P) (h40 : P 0 0 ≤ 40) {i j : Int} (hQ : Q (some (vI (if isp P i j then 1 else 0))) M) : sl_Runs l mX0_isSpan [vR c 0, vI i, vI j] M Q := by
  have hn := hC.1
  refine eX0_isSpan (vX0_isSpan_0 hc fun _ _ _ => kX0_holds hc ⟨_, rfl, fun q => ?_, fun q => ?_⟩)
  · rw [b_eq0] at q
    rw [if_neg (by unfold isp; omega)] at hQ
    exact hQ
  · have q := b_ne0.mp q
    refine kX0_holds hc ⟨_, rfl, fun q2 q3 => ?_, ?_⟩
    · have q2 := b_ne0.mp q2
      omega
    · by_cases q2 : 0 ≤ j ∧ j < M c 0 11
      · obtain ⟨e1, e2, e3, e4⟩ := hC.2 i (by omega) (by omega)
        obtain ⟨g1, g2, g3, g4⟩ := hC.2 j (by omega) (by omega)
        rw [e2, g2, e4, g4, b_congr (R := isp P i j) (by rw [if_pos q2]; unfold isp; omega)]
        exact hQ
      · rw [b_congr (R := isp P i j) (by rw [if_neg q2]; unfold isp; omega)]
        exact hQ
end K
