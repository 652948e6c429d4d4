/-! The ways of the program with calls and of the program told -/
section L
variable {R rho : Int → Int}
/-- the same place: y in the program told, x in the one with calls -/
def lr (R rho : Int → Int) (y x : Int) : Prop := (y < 0 ∧ x = y) ∨ (0 ≤ x ∧ x < ly R rho 0 0 ∧ y = tk R x)
/-- t ends where statement k does, and stands in its block -/
def tl (R rho : Int → Int) (t k : Int) : Prop := (0 ≤ t ∧ t < cutR R 0) ∧ (0 ≤ k ∧ k < ly R rho 0 0) ∧ tp (cutR R) 3 t = tk R (ly R rho 3 k) ∧ tp (cutR R) 2 t = tp (cutR R) 2 (tk R k) ∧ tp (cutR R) 4 t = tp (cutR R) 4 (tk R k)
theorem Good.at (h : Good R rho) {k : Int} (k0 : 0 ≤ k) (k1 : k ≤ ly R rho 0 0) : 0 ≤ tk R k ∧ tk R k ≤ cutR R 0 ∧ isN (clR R) (eR R) (tk R k) ∧ ixn (clR R) (eR R) (tk R k).toNat = k ∧ (k < ly R rho 0 0 → tk R k < cutR R 0 ∧ tk R (k + 1) = nxt (clR R) (eR R) (tk R k)) := (ly_lay (rho := rho)).at h.1.1 h.spn k0 k1
theorem Good.lt (h : Good R rho) {j k : Int} (j0 : 0 ≤ j) (hjk : j < k) (k1 : k ≤ ly R rho 0 0) : tk R j < tk R k := (ly_lay (rho := rho)).lt h.1.1 h.spn j0 hjk k1
theorem Good.end (h : Good R rho) : tk R (ly R rho 0 0) = cutR R 0 := ((ly_lay (rho := rho)).end h.1.1 h.spn).2.2
theorem Good.of (h : Good R rho) {t : Int} (t0 : 0 ≤ t) (t1 : t ≤ cutR R 0) (hN : isN (clR R) (eR R) t) : 0 ≤ ixn (clR R) (eR R) t.toNat ∧ ixn (clR R) (eR R) t.toNat ≤ ly R rho 0 0 ∧ tk R (ixn (clR R) (eR R) t.toNat) = t ∧ (t < cutR R 0 → ixn (clR R) (eR R) t.toNat < ly R rho 0 0) := (ly_lay (rho := rho)).of h.1.1 h.spn t0 t1 hN
/-- the parent of a statement -/
theorem Good.par (h : Good R rho) {k : Int} (k0 : 0 ≤ k) (k1 : k < ly R rho 0 0) : (tp (cutR R) 2 (tk R k) < 0 ∧ ly R rho 2 k = -1) ∨ (0 ≤ tp (cutR R) 2 (tk R k) ∧ 0 ≤ ly R rho 2 k ∧ ly R rho 2 k < k ∧ tk R (ly R rho 2 k) = tp (cutR R) 2 (tk R k) ∧ ly R rho 1 (ly R rho 2 k) = tp (cutR R) 1 (tp (cutR R) 2 (tk R k)) ∧ clR R (tp (cutR R) 2 (tk R k)) = -1) := by
  have a := h.at k0 (by omega)
  have b := a.2.2.2.2 k1
  have e2 : ly R rho 2 k = ix (clR R) (eR R) (tp (cutR R) 2 (tk R k)) := rfl
  rw [e2]
  by_cases z : tp (cutR R) 2 (tk R k) < 0
  · exact Or.inl ⟨z, by unfold ix; rw [if_pos z]⟩
  · have up := isN_up h.1.1 h.spn a.1 b.1 a.2.2.1 (by omega)
    have p := h.1.1.pr a.1 b.1
    have of := h.of (t := tp (cutR R) 2 (tk R k)) (by omega) (by omega) up.1
    have w := h.wf.pr k0 k1
    rw [e2] at w
    unfold ix at w ⊢
    rw [if_neg z] at w ⊢
    refine Or.inr ⟨by omega, of.1, w.2, of.2.2.1, ?_, up.2⟩
    show (if clR R (tk R (ixn (clR R) (eR R) (tp (cutR R) 2 (tk R k)).toNat)) ≠ -1 then (7 : Int) else cutR R (1 + tk R (ixn (clR R) (eR R) (tp (cutR R) 2 (tk R k)).toNat))) = _
    rw [of.2.2.1, if_neg (fun w => w up.2)]; rfl
/-- where a statement without a call ends -/
theorem Good.af3 (h : Good R rho) {k : Int} (k0 : 0 ≤ k) (k1 : k < ly R rho 0 0) (hc : clR R (tk R k) = -1) : tk R (ly R rho 3 k) = tp (cutR R) 3 (tk R k) := by
  have a := h.at k0 (by omega)
  have b := a.2.2.2.2 k1
  have af := isN_af h.1.1 h.spn a.1 b.1 a.2.2.1 hc
  have w := h.1.1.af a.1 b.1
  have of := h.of (t := tp (cutR R) 3 (tk R k)) (by omega) w.2 af
  have e3 : ly R rho 3 k = ixn (clR R) (eR R) (tp (cutR R) 3 (tk R k)).toNat := by
    show (if clR R (tk R k) ≠ -1 then k + 1 else ixn (clR R) (eR R) (cutR R (41 + tk R k)).toNat) = _
    rw [if_neg (fun w => w hc)]; rfl
  rw [e3]; exact of.2.2.1
theorem tl_self (h : Good R rho) {k : Int} (k0 : 0 ≤ k) (k1 : k < ly R rho 0 0) (hc : clR R (tk R k) = -1) : tl R rho (tk R k) k := by
  have a := h.at k0 (by omega)
  have b := a.2.2.2.2 k1
  exact ⟨⟨a.1, b.1⟩, ⟨k0, k1⟩, (h.af3 k0 k1 hc).symm, rfl, rfl⟩
/-- the last statement of a call's span -/
theorem tl_call (h : Good R rho) {k : Int} (k0 : 0 ≤ k) (k1 : k < ly R rho 0 0) (hc : clR R (tk R k) ≠ -1) : tl R rho (cz R (clR R (tk R k))) k := by
  have a := h.at k0 (by omega)
  have b := a.2.2.2.2 k1
  obtain ⟨c0, c1, c2⟩ := clR_spec hc
  obtain ⟨s1, s2, s3, s4, s5⟩ := (h.2.2.2.2.1 _ c0 c1).1
  have ea : ca R (clR R (tk R k)) = tk R k := c2
  rw [ea] at s1 s2 s4 s5
  refine ⟨⟨by omega, s3⟩, ⟨k0, k1⟩, ?_, s4.symm, s5.symm⟩
  have e3 : ly R rho 3 k = k + 1 := by
    show (if clR R (tk R k) ≠ -1 then k + 1 else _) = _
    rw [if_pos hc]
  rw [e3, b.2]
  unfold nxt
  rw [if_pos hc]; rfl
theorem lr_bh (h : Good R rho) : ∀ (m : Nat) (t k : Int), tl R rho t k → lr R rho (bh (tp (cutR R)) 0 (cutR R 0 - 1) m t) (bh (ly R rho) 0 (ly R rho 0 0 - 1) m k) := by
  intro m
  induction m with
  | zero => intro t k _; exact Or.inl ⟨by show (-1 : Int) < 0; omega, rfl⟩
  | succ m ih =>
    intro t k ht
    obtain ⟨t0, k0, t3, t2, t4⟩ := ht
    have hw := h.wf
    have af := hw.af k0.1 k0.2
    have ak := h.at (k := ly R rho 3 k) (by omega) (by omega)
    have atk := h.at k0.1 (by omega)
    have pk := h.par k0.1 k0.2
    have enn := h.end
    have e4' : ∀ x, ly R rho 4 x = tp (cutR R) 4 (tk R x) := fun _ => rfl
    have cond : (tp (cutR R) 3 t ≤ cutR R 0 - 1 ∧ tp (cutR R) 2 (tp (cutR R) 3 t) = tp (cutR R) 2 t ∧ tp (cutR R) 4 (tp (cutR R) 3 t) = tp (cutR R) 4 t) ↔ (ly R rho 3 k ≤ ly R rho 0 0 - 1 ∧ ly R rho 2 (ly R rho 3 k) = ly R rho 2 k ∧ ly R rho 4 (ly R rho 3 k) = ly R rho 4 k) := by
      rw [t3, t2, t4, e4', e4']
      by_cases c : ly R rho 3 k < ly R rho 0 0
      · have lt := (ak.2.2.2.2 c).1
        have p3 := h.par (k := ly R rho 3 k) (by omega) c
        have q3 := h.1.1.pr (k := tk R (ly R rho 3 k)) ak.1 lt
        have q0 := h.1.1.pr (k := tk R k) atk.1 (atk.2.2.2.2 k0.2).1
        have e2 : tp (cutR R) 2 (tk R (ly R rho 3 k)) = tp (cutR R) 2 (tk R k) ↔ ly R rho 2 (ly R rho 3 k) = ly R rho 2 k := by
          rcases p3 with p3 | p3 <;> rcases pk with pk | pk
          · constructor
            · intro _; omega
            · intro _; omega
          · constructor
            · intro z; omega
            · intro z; omega
          · constructor
            · intro z; omega
            · intro z; omega
          · constructor
            · intro z
              have u1 := (h.at (k := ly R rho 2 (ly R rho 3 k)) (by omega) (by omega)).2.2.2.1
              have u2 := (h.at (k := ly R rho 2 k) (by omega) (by omega)).2.2.2.1
              rw [p3.2.2.2.1] at u1
              rw [pk.2.2.2.1] at u2
              rw [z] at u1
              omega
            · intro z; rw [← p3.2.2.2.1, ← pk.2.2.2.1, z]
        rw [e2]
        constructor
        · rintro ⟨z1, z2, z3⟩; exact ⟨by omega, z2, z3⟩
        · rintro ⟨z1, z2, z3⟩; exact ⟨by omega, z2, z3⟩
      · have : ly R rho 3 k = ly R rho 0 0 := by omega
        rw [this, enn]
        constructor
        · intro z; omega
        · intro z; omega
    rw [bh, bh]
    by_cases c : ly R rho 3 k ≤ ly R rho 0 0 - 1 ∧ ly R rho 2 (ly R rho 3 k) = ly R rho 2 k ∧ ly R rho 4 (ly R rho 3 k) = ly R rho 4 k
    · rw [if_pos c, if_pos (cond.mpr c)]
      exact Or.inr ⟨by omega, by omega, t3⟩
    · rw [if_neg c, if_neg (fun z => c (cond.mp z)), t2]
      rcases pk with ⟨p1, p2⟩ | ⟨p1, p2, p3, p4, p5, p6⟩
      · rw [if_pos (show tp (cutR R) 2 (tk R k) < 0 ∨ tp (cutR R) 2 (tk R k) < 0 from Or.inl p1), if_pos (show ly R rho 2 k < 0 ∨ ly R rho 2 k < 0 by omega)]
        exact Or.inl ⟨by omega, rfl⟩
      · rw [if_neg (show ¬ (tp (cutR R) 2 (tk R k) < 0 ∨ tp (cutR R) 2 (tk R k) < 0) by omega), if_neg (show ¬ (ly R rho 2 k < 0 ∨ ly R rho 2 k < 0) by omega), p5]
        by_cases c6 : tp (cutR R) 1 (tp (cutR R) 2 (tk R k)) = 6
        · rw [if_pos c6, if_pos c6]
          exact Or.inr ⟨p2, by omega, p4.symm⟩
        · rw [if_neg c6, if_neg c6]
          have := tl_self h p2 (by omega) (by rw [p4]; exact p6)
          rw [p4] at this
          exact ih _ _ this
theorem lr_la (h : Good R rho) {k : Int} (k0 : 0 ≤ k) (k1 : k < ly R rho 0 0) : (la (tp (cutR R)) 0 40 (tp (cutR R) 2 (tk R k)) = -1 ∧ la (ly R rho) 0 40 (ly R rho 2 k) = -1) ∨ (0 ≤ la (ly R rho) 0 40 (ly R rho 2 k) ∧ la (ly R rho) 0 40 (ly R rho 2 k) < k ∧ tk R (la (ly R rho) 0 40 (ly R rho 2 k)) = la (tp (cutR R)) 0 40 (tp (cutR R) 2 (tk R k)) ∧ clR R (la (tp (cutR R)) 0 40 (tp (cutR R) 2 (tk R k))) = -1 ∧ 0 ≤ la (tp (cutR R)) 0 40 (tp (cutR R) 2 (tk R k))) := by
  have hw := h.wf
  have pw := hw.pr k0 k1
  have a := h.at k0 (by omega)
  have b := a.2.2.2.2 k1
  have p := h.1.1.pr a.1 b.1
  have lp := (ly_lay (rho := rho)).loop h.1.1 h.spn 40 (tp (cutR R) 2 (tk R k)) (by show _ < cutR R 0; omega) (fun z => isN_up h.1.1 h.spn a.1 b.1 a.2.2.1 z)
  have e2 : ly R rho 2 k = ix (clR R) (eR R) (tp (cutR R) 2 (tk R k)) := rfl
  rw [← e2] at lp
  have rT := la_rng h.1.1 (f := 0) (by omega) 40 (tp (cutR R) 2 (tk R k)) (by show _ < cutR R 0; omega)
  rcases rT with rT | rT
  · rw [rT] at lp
    exact Or.inl ⟨rT, lp⟩
  · -- the loop is a statement
    have rP := la_rng hw (f := 0) (by omega) 40 (ly R rho 2 k) (by omega)
    have nonneg : ix (clR R) (eR R) (la (tp (cutR R)) 0 40 (tp (cutR R) 2 (tk R k))) = ixn (clR R) (eR R) (la (tp (cutR R)) 0 40 (tp (cutR R) 2 (tk R k))).toNat := by unfold ix; rw [if_neg (by omega)]
    have ge := (nd_ixn h.spn (la (tp (cutR R)) 0 40 (tp (cutR R) 2 (tk R k))).toNat (by show _ ≤ cutR R 0; omega)).1
    rw [nonneg] at lp
    rcases rP with rP | rP
    · omega
    · -- up the chain of parents
      have chain : ∀ (m : Nat) (u : Int), u < cutR R 0 → (0 ≤ u → isN (clR R) (eR R) u ∧ clR R u = -1) → 0 ≤ la (tp (cutR R)) 0 m u → isN (clR R) (eR R) (la (tp (cutR R)) 0 m u) ∧ clR R (la (tp (cutR R)) 0 m u) = -1 := by
        intro m
        induction m with
        | zero => intro u _ _ z; have : (0 : Int) ≤ -1 := z; omega
        | succ m ih =>
          intro u u1 hu z
          rw [la] at z ⊢
          by_cases c : u < 0 ∨ u < 0
          · rw [if_pos c] at z; omega
          · rw [if_neg c] at z ⊢
            by_cases c6 : tp (cutR R) 1 u = 6
            · rw [if_pos c6] at z ⊢; exact hu (by omega)
            · rw [if_neg c6] at z ⊢
              have pu := h.1.1.pr (k := u) (by omega) u1
              exact ih _ (by omega) (fun w => isN_up h.1.1 h.spn (by omega) u1 (hu (by omega)).1 w) z
      have ch := chain 40 _ (by omega) (fun z => isN_up h.1.1 h.spn a.1 b.1 a.2.2.1 z) rT.1
      have of := h.of (t := la (tp (cutR R)) 0 40 (tp (cutR R) 2 (tk R k))) rT.1 (by omega) ch.1
      rw [← lp] at of
      exact Or.inr ⟨by omega, by omega, of.2.2.1, ch.2, rT.1⟩
theorem lr_tg (h : Good R rho) {t k e : Int} (ht : tl R rho t k) (he : e4 e) : lr R rho (tg (tp (cutR R)) 0 (cutR R 0 - 1) t e) (tg (ly R rho) 0 (ly R rho 0 0 - 1) k e) := by
  have b := lr_bh h 40 t k ht
  obtain ⟨t0, k0, t3, t2, t4⟩ := ht
  have a := lr_la h k0.1 k0.2
  unfold tg
  rw [t2]
  by_cases c : e = 1
  · rw [if_pos c, if_pos c]; exact b
  · rw [if_neg c, if_neg c]
    rcases a with ⟨a1, a2⟩ | ⟨a1, a2, a3, a4, a5⟩
    · rw [if_pos (Or.inr a1), if_pos (Or.inr a2)]
      exact Or.inl ⟨by omega, rfl⟩
    · by_cases c8 : e = 8
      · rw [if_pos (Or.inl c8), if_pos (Or.inl c8)]
        exact Or.inl ⟨by omega, rfl⟩
      · rw [if_neg (show ¬ (e = 8 ∨ la (tp (cutR R)) 0 40 (tp (cutR R) 2 (tk R k)) = -1) by omega), if_neg (show ¬ (e = 8 ∨ la (ly R rho) 0 40 (ly R rho 2 k) = -1) by omega)]
        by_cases c2 : e = 2
        · rw [if_pos c2, if_pos c2]
          have := tl_self h a1 (by omega) (by rw [a3]; exact a4)
          rw [a3] at this
          exact lr_bh h 40 _ _ this
        · rw [if_neg c2, if_neg c2]
          exact Or.inr ⟨a1, by omega, a3.symm⟩
/-- the tops of a call's span stand in one block -/
theorem Good.rgc (h : Good R rho) {c : Int} (hc : 0 ≤ c ∧ c < R 789) : RG (tp (cutR R)) (ca R c) (tp (cutR R) 3 (cz R c) - ca R c) := RG.of h.1.1 h.1.2.1 (h.2.2.2.2.1 c hc.1 hc.2).1
theorem lr_fo (h : Good R rho) {k s : Int} (k0 : 0 ≤ k) (k1 : k < ly R rho 0 0) (hc : clR R (tk R k) = -1) : (fo (tp (cutR R)) (tk R k) s 40 (tk R k + 1) = -1 ∧ fo (ly R rho) k s 40 (k + 1) = -1) ∨ (0 ≤ fo (ly R rho) k s 40 (k + 1) ∧ fo (ly R rho) k s 40 (k + 1) < ly R rho 0 0 ∧ fo (tp (cutR R)) (tk R k) s 40 (tk R k + 1) = tk R (fo (ly R rho) k s 40 (k + 1))) := by
  have hw := h.wf
  have hT := h.1.1
  have a := h.at k0 (by omega)
  have b := a.2.2.2.2 k1
  have n0 := hT.n0
  have e00 : tp (cutR R) 0 0 = cutR R 0 := rfl
  rw [e00] at n0
  have af := hT.af a.1 b.1
  have afP := hw.af k0 k1
  rw [e00] at af
  have e3 := h.af3 k0 k1 hc
  -- a child in the program is one in what is told
  have child : ∀ x, 0 ≤ x → x < ly R rho 0 0 → (ly R rho 2 x = k ↔ tp (cutR R) 2 (tk R x) = tk R k) := by
    intro x x0 x1
    have ax := h.at x0 (by omega)
    rcases h.par x0 x1 with p | p
    · constructor
      · intro z; omega
      · intro z; omega
    · constructor
      · intro z; rw [← p.2.2.2.1, z]
      · intro z
        have u1 := (h.at (k := ly R rho 2 x) p.2.1 (by omega)).2.2.2.1
        rw [p.2.2.2.1, z, a.2.2.2.1] at u1
        exact u1.symm
  rcases fo_spec (P := tp (cutR R)) (k := tk R k) (s := s) 40 (tk R k + 1) (by omega) with ⟨q1, q2⟩ | ⟨q1, q2, q3, q4, q5⟩
  · refine Or.inl ⟨q1, fo_eq hw k0 k1 (Or.inl ⟨rfl, fun x x0 x1 => ?_⟩)⟩
    rintro ⟨y1, y2⟩
    have lt1 := h.lt k0 x0 (by omega)
    have lt2 := h.lt (j := x) (by omega) x1 afP.2
    rw [e3] at lt2
    exact q2 (tk R x) (by omega) lt2 ⟨(child x (by omega) (by omega)).mp y1, y2⟩
  · -- the first child is a statement of the program
    have y0 : 0 ≤ fo (tp (cutR R)) (tk R k) s 40 (tk R k + 1) := by omega
    have y1 : fo (tp (cutR R)) (tk R k) s 40 (tk R k + 1) < cutR R 0 := by omega
    have yN : isN (clR R) (eR R) (fo (tp (cutR R)) (tk R k) s 40 (tk R k + 1)) := by
      refine isN_yes h.spn y0 (by rw [e00]; omega) (fun c c0 c1 cN cc => ?_)
      refine Int.not_lt.mp fun lt => ?_
      obtain ⟨d0, d1, d2⟩ := clR_spec cc
      have d2' : ca R (clR R c) = c := d2
      have rg := h.rgc ⟨d0, d1⟩
      have eE : tp (cutR R) 3 (cz R (clR R c)) = eR R c := rfl
      rw [d2', eE] at rg
      have sp := h.spn c c0 (by rw [e00]; omega) cc
      -- where the parent is
      have r := (sp.2.1 (fo (tp (cutR R)) (tk R k) s 40 (tk R k + 1)) (by omega) lt).2
      rw [q3] at r
      rcases r with r | r
      · by_cases ec : c = tk R k
        · rw [ec] at cc; exact cc hc
        · exact isN_no h.spn c0 (by rw [e00]; omega) cN cc (by omega) (by omega) a.2.2.1
      · have top := rg.2.2.2.2.2 (fo (tp (cutR R)) (tk R k) s 40 (tk R k + 1) - c) (by omega) (by omega) (by
          rw [show c + (fo (tp (cutR R)) (tk R k) s 40 (tk R k + 1) - c) = fo (tp (cutR R)) (tk R k) s 40 (tk R k + 1) by omega, q3]
          have := hT.pr (k := c) c0 (by rw [e00]; omega)
          omega)
        rw [show c + (fo (tp (cutR R)) (tk R k) s 40 (tk R k + 1) - c) = fo (tp (cutR R)) (tk R k) s 40 (tk R k + 1) by omega] at top
        have pc := hT.pr (k := c) c0 (by rw [e00]; omega)
        exact q5 c (by omega) c1 ⟨r.symm, by omega⟩
    have of := h.of y0 (by omega) yN
    have x1 := of.2.2.2 y1
    have kx : k < ixn (clR R) (eR R) (fo (tp (cutR R)) (tk R k) s 40 (tk R k + 1)).toNat := by
      refine Int.not_le.mp fun z => ?_
      by_cases e : ixn (clR R) (eR R) (fo (tp (cutR R)) (tk R k) s 40 (tk R k + 1)).toNat = k
      · have := of.2.2.1
        rw [e] at this; omega
      · have := h.lt (j := ixn (clR R) (eR R) (fo (tp (cutR R)) (tk R k) s 40 (tk R k + 1)).toNat) of.1 (k := k) (by omega) (by omega)
        rw [of.2.2.1] at this; omega
    have xe : ixn (clR R) (eR R) (fo (tp (cutR R)) (tk R k) s 40 (tk R k + 1)).toNat < ly R rho 3 k := by
      refine Int.not_le.mp fun z => ?_
      by_cases e : ixn (clR R) (eR R) (fo (tp (cutR R)) (tk R k) s 40 (tk R k + 1)).toNat = ly R rho 3 k
      · have := of.2.2.1
        rw [e, e3] at this; omega
      · have := h.lt (j := ly R rho 3 k) (by omega) (k := ixn (clR R) (eR R) (fo (tp (cutR R)) (tk R k) s 40 (tk R k + 1)).toNat) (by omega) of.2.1
        rw [of.2.2.1, e3] at this; omega
    have ef : fo (ly R rho) k s 40 (k + 1) = ixn (clR R) (eR R) (fo (tp (cutR R)) (tk R k) s 40 (tk R k + 1)).toNat := by
      refine fo_eq hw k0 k1 (Or.inr ⟨kx, xe, ?_, ?_, fun x x0 x1' => ?_⟩)
      · exact (child _ of.1 x1).mpr (by rw [of.2.2.1]; exact q3)
      · show tp (cutR R) 4 (tk R (ixn (clR R) (eR R) (fo (tp (cutR R)) (tk R k) s 40 (tk R k + 1)).toNat)) = s
        rw [of.2.2.1]; exact q4
      · rintro ⟨z1, z2⟩
        have lt1 := h.lt k0 x0 (by omega)
        have lt2 := h.lt (j := x) (by omega) x1' of.2.1
        rw [of.2.2.1] at lt2
        exact q5 (tk R x) (by omega) lt2 ⟨(child x (by omega) (by omega)).mp z1, z2⟩
    rw [ef]
    exact Or.inr ⟨of.1, x1, of.2.2.1.symm⟩
theorem lr_en (h : Good R rho) {k s : Int} (k0 : 0 ≤ k) (k1 : k < ly R rho 0 0) (hc : clR R (tk R k) = -1) : lr R rho (en (tp (cutR R)) 0 (cutR R 0 - 1) (tk R k) s) (en (ly R rho) 0 (ly R rho 0 0 - 1) k s) := by
  have b := lr_bh h 40 _ _ (tl_self h k0 k1 hc)
  have e1 : ly R rho 1 k = tp (cutR R) 1 (tk R k) := by
    show (if clR R (tk R k) ≠ -1 then (7 : Int) else cutR R (1 + tk R k)) = _
    rw [if_neg (fun w => w hc)]; rfl
  unfold en
  rcases lr_fo h (s := s) k0 k1 hc with ⟨f1, f2⟩ | ⟨f1, f2, f3⟩
  · rw [if_neg (show ¬ fo (tp (cutR R)) (tk R k) s 40 (tk R k + 1) ≠ -1 from fun z => z f1), if_neg (show ¬ fo (ly R rho) k s 40 (k + 1) ≠ -1 from fun z => z f2), e1]
    by_cases c : tp (cutR R) 1 (tk R k) = 6 ∧ s = 0
    · rw [if_pos c, if_pos c]; exact Or.inr ⟨k0, k1, rfl⟩
    · rw [if_neg c, if_neg c]; exact b
  · have a := (h.at f1 (by omega)).1
    rw [if_pos (show fo (tp (cutR R)) (tk R k) s 40 (tk R k + 1) ≠ -1 by omega), if_pos (show fo (ly R rho) k s 40 (k + 1) ≠ -1 by omega)]
    exact Or.inr ⟨f1, f2, f3⟩
/-- a statement that is no call has the same ways in both -/
theorem ed_same (h : Good R rho) {k : Int} (k0 : 0 ≤ k) (k1 : k < ly R rho 0 0) (hc : clR R (tk R k) = -1) : (∀ y S, Ed (tp (cutR R)) 0 (cutR R 0 - 1) (tk R k) y S → ∃ x, Ed (ly R rho) 0 (ly R rho 0 0 - 1) k x S ∧ lr R rho y x) ∧ (∀ x S, Ed (ly R rho) 0 (ly R rho 0 0 - 1) k x S → ∃ y, Ed (tp (cutR R)) 0 (cutR R 0 - 1) (tk R k) y S ∧ lr R rho y x) := by
  have nc : ¬ clR R (tk R k) ≠ -1 := fun w => w hc
  have e1 : ly R rho 1 k = tp (cutR R) 1 (tk R k) := by
    show (if clR R (tk R k) ≠ -1 then (7 : Int) else cutR R (1 + tk R k)) = _
    rw [if_neg nc]; rfl
  have e20 : ly R rho 20 k = tp (cutR R) 20 (tk R k) := by
    show (if clR R (tk R k) ≠ -1 then R (768 + R (870 + clR R (tk R k))) else tp (cutR R) 20 (tk R k)) = _
    rw [if_neg nc]
  have e21 : ∀ e, e4 e → ly R rho 21 (16 * k + e) = tp (cutR R) 21 (16 * tk R k + e) := by
    intro e he
    show (if clR R (tk R ((16 * k + e) / 16)) ≠ -1 then csets R (clR R (tk R ((16 * k + e) / 16))) ((16 * k + e) % 16) else tp (cutR R) 22 (tk R ((16 * k + e) / 16))) = (if cutR R (1 + (16 * tk R k + e) / 16) = 0 then ishl 1 (cutR R (201 + (16 * tk R k + e) / 16)) else 0)
    rw [show (16 * k + e) / 16 = k by omega, if_neg nc, show (16 * tk R k + e) / 16 = tk R k by omega]; rfl
  have te := tl_self h k0 k1 hc
  constructor
  · rintro y S (⟨q1, q2, q3⟩ | ⟨q1, q2, e, he, q3, q4, q5⟩)
    · rcases q3 with q3 | q3
      · exact ⟨_, Or.inl ⟨by rw [e1]; exact q1, q2, Or.inl rfl⟩, by rw [q3]; exact lr_en h k0 k1 hc⟩
      · exact ⟨_, Or.inl ⟨by rw [e1]; exact q1, q2, Or.inr rfl⟩, by rw [q3]; exact lr_en h k0 k1 hc⟩
    · exact ⟨_, Or.inr ⟨by rw [e1]; exact q1, by rw [e1]; exact q2, e, he, by rw [e20]; exact q3, rfl, by rw [e21 e he]; exact q5⟩, by rw [q4]; exact lr_tg h te he⟩
  · rintro x S (⟨q1, q2, q3⟩ | ⟨q1, q2, e, he, q3, q4, q5⟩)
    · rcases q3 with q3 | q3
      · exact ⟨_, Or.inl ⟨by rw [← e1]; exact q1, q2, Or.inl rfl⟩, by rw [q3]; exact lr_en h k0 k1 hc⟩
      · exact ⟨_, Or.inl ⟨by rw [← e1]; exact q1, q2, Or.inr rfl⟩, by rw [q3]; exact lr_en h k0 k1 hc⟩
    · exact ⟨_, Or.inr ⟨by rw [← e1]; exact q1, by rw [← e1]; exact q2, e, he, by rw [← e20]; exact q3, rfl, by rw [← e21 e he]; exact q5⟩, by rw [q4]; exact lr_tg h te he⟩
end L
