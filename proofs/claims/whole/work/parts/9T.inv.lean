/-! What a call needs is always set -/
def Inv (R : Int → Int) (k B : Int) : Prop := ∀ v : Nat, v < 8 → Lv (tp (cutR R)) 0 (cutR R 0 - 1) v (tk R k) → ¬ nS (tp (cutR R)) (tk R k) v → bt B v = true
section V
variable {R rho : Int → Int}
theorem Rw.go {P : Pg} {f t : Int} {W : Int → Prop} {a x S : Int} (h : Rw P f t W a) (h0 : f ≤ a) (h1 : a ≤ t) (he : Ed P f t a x S) (hx : 0 ≤ x) (hS : W S) : Rw P f t W x := fun Z b s => s a x S h0 h1 (h Z b s) he hx hS
theorem Rw.at0 {P : Pg} {f t : Int} {W : Int → Prop} : Rw P f t W f := fun _ b _ => b
theorem Lv.go {P : Pg} {f t a x S : Int} {v : Nat} (h : Lv P f t v x) (h0 : f ≤ a) (h1 : a ≤ t) (he : Ed P f t a x S) (hx : 0 ≤ x) (hS : bt S v = false) : Lv P f t v a := fun Z b s => s a x S h0 h1 he hx hS (h Z b s)
/-- what an edge of a statement told sets -/
theorem nx_S {A : Int → Int} {f t k v : Int} : ∃ S, Ed (tp A) f t k (nxA (tp A) f t k v) S ∧ ∀ B w, bt S w = true → (0 ≤ A (201 + k) ∧ A (201 + k) < 8 ∨ A (1 + k) ≠ 0) → bt (bS (tp A) k B) w = true := by
  obtain ⟨S, a, b⟩ := nx_ed (P := tp A) (f := f) (t := t) (v := v) (TG.k20 (A := A) k)
  refine ⟨S, a, fun B w hw h2 => ?_⟩
  have z : ∀ w : Nat, bt 0 w = false := fun w => bt_0 w
  rcases b with ⟨b, -⟩ | ⟨b, -⟩
  · rw [b, z] at hw; cases hw
  · rw [b, TG.t21 (by have := eK_4 (tp A 1 k); unfold e4 at this; omega)] at hw
    have e22 : tp A 22 k = (if A (1 + k) = 0 then ishl 1 (A (201 + k)) else 0) := rfl
    rw [e22] at hw
    by_cases c : A (1 + k) = 0
    · rw [if_pos c] at hw
      have e1 : bS (tp A) k B = ior B (ishl 1 (A (201 + k))) := if_pos c
      rw [e1, bt_ior, hw, Bool.or_true]
    · rw [if_neg c, z] at hw; cases hw
theorem bS_sup {P : Pg} {k B : Int} {v : Nat} (h : bt B v = true) : bt (bS P k B) v = true := by
  unfold bS
  split
  · rw [bt_ior, h]; rfl
  · exact h
/-- a walk through a region is a path in it -/
theorem wk_path (hG : Good R rho) {i j : Int} (hs : isp (tp (cutR R)) i j) : ∀ (m : Nat) (k : Int) (D : Int → Int) (B : Int) (g : Gs), i ≤ k → k < tp (cutR R) 3 j → Rw (tp (cutR R)) i (tp (cutR R) 3 j - 1) wA k → (∀ v : Nat, v < 8 → bt B v = true ∨ Rw (tp (cutR R)) i (tp (cutR R) 3 j - 1) (wV v) k) → (wkA (tp (cutR R)) i (tp (cutR R) 3 j - 1) m k D B g).1 = 0 → ∃ e, e4 e ∧ (wkA (tp (cutR R)) i (tp (cutR R) 3 j - 1) m k D B g).2.1 = -e ∧ xE (tp (cutR R)) i (tp (cutR R) 3 j - 1) e ∧ ∀ v : Nat, v < 8 → bt (wkA (tp (cutR R)) i (tp (cutR R) 3 j - 1) m k D B g).2.2.2.1 v = true ∨ mU (tp (cutR R)) i (tp (cutR R) 3 j - 1) e v := by
  have hw := hG.1.1
  have hr := RG.of hw hG.1.2.1 hs
  have n0 := hw.n0
  obtain ⟨s0, s1, s2, s3, s4⟩ := hs
  have aj := hw.af (k := j) (by omega) s2
  have e00 : tp (cutR R) 0 0 = cutR R 0 := rfl
  intro m
  induction m with
  | zero => intro k D B g _ _ _ _ h0; exact absurd h0 (by show ¬ ((4 : Int) = 0); omega)
  | succ m ih =>
    intro k D B g k0 k1 hA hV h0
    have sx := st_nx (x := k - i) (n := tp (cutR R) 3 j - i) (D := D) (B := B) (g := g) hr (by omega) (by omega) (TG.k20 _)
    rw [show i + (tp (cutR R) 3 j - i) - 1 = tp (cutR R) 3 j - 1 by omega, show i + (k - i) = k by omega] at sx
    obtain ⟨sa, sb, sc⟩ := sx
    have td := hG.1.2.2.2 k (by omega) (by omega)
    have ok : (stA (tp (cutR R)) i (tp (cutR R) 3 j - 1) k D B g).1 = 0 := by
      refine Classical.byContradiction fun q => ?_
      rw [wkA_s, if_pos (Or.inl q)] at h0
      exact q h0
    obtain ⟨sc1, sc2, -⟩ := sc ok
    obtain ⟨S, hE, hS⟩ := nx_S (A := cutR R) (f := i) (t := tp (cutR R) 3 j - 1) (k := k) (v := (evA (tp (cutR R)) k D B).2)
    rw [← sc1] at hE
    have k201 : 0 ≤ cutR R (201 + k) ∧ cutR R (201 + k) < 8 ∨ cutR R (1 + k) ≠ 0 := by
      by_cases c : cutR R (1 + k) = 0
      · exact Or.inl (td.2.1 c)
      · exact Or.inr c
    have bitS : ∀ v : Nat, bt (bS (tp (cutR R)) k B) v ≠ true → bt B v ≠ true ∧ bt S v = false := fun v hv => ⟨fun q => hv (bS_sup q), by cases q : bt S v with | true => exact (hv (hS B v q k201)).elim | false => rfl⟩
    rw [wkA_s] at h0 ⊢
    by_cases c : (stA (tp (cutR R)) i (tp (cutR R) 3 j - 1) k D B g).1 ≠ 0 ∨ (stA (tp (cutR R)) i (tp (cutR R) 3 j - 1) k D B g).2.1 < 0
    · rw [if_pos c] at h0 ⊢
      have neg : (stA (tp (cutR R)) i (tp (cutR R) 3 j - 1) k D B g).2.1 < 0 := c.elim (fun q => (q ok).elim) id
      obtain ⟨e, e1, e2⟩ : ∃ e, e4 e ∧ (stA (tp (cutR R)) i (tp (cutR R) 3 j - 1) k D B g).2.1 = -e := by
        rcases sb with a | a
        · exact a
        · omega
      rw [e2] at hE
      refine ⟨e, e1, e2, ⟨k, S, k0, by omega, hA, hE⟩, fun v hv => ?_⟩
      rw [sc2]
      by_cases q : bt (bS (tp (cutR R)) k B) v = true
      · exact Or.inl q
      · obtain ⟨q1, q2⟩ := bitS v q
        exact Or.inr ⟨k, S, k0, by omega, (hV v hv).elim (fun z => (q1 z).elim) id, hE, q2⟩
    · rw [if_neg c] at h0 ⊢
      have pos : 0 ≤ (stA (tp (cutR R)) i (tp (cutR R) 3 j - 1) k D B g).2.1 := by omega
      have rng : i ≤ (stA (tp (cutR R)) i (tp (cutR R) 3 j - 1) k D B g).2.1 ∧ (stA (tp (cutR R)) i (tp (cutR R) 3 j - 1) k D B g).2.1 < tp (cutR R) 3 j := by
        rcases sb with ⟨e, a, b⟩ | a
        · unfold e4 at a; omega
        · omega
      refine ih _ _ _ _ rng.1 rng.2 (hA.go k0 (by omega) hE pos trivial) (fun v hv => ?_) h0
      rw [sc2]
      by_cases q : bt (bS (tp (cutR R)) k B) v = true
      · exact Or.inl q
      · obtain ⟨q1, q2⟩ := bitS v q
        exact Or.inr (((hV v hv).elim (fun z => (q1 z).elim) id : Rw _ _ _ (wV v) k).go k0 (by omega) hE pos q2)
/-- leaving a span without setting v -/
theorem mU_back (hG : Good R rho) {a b e : Int} {v : Nat} (hs : isp (tp (cutR R)) a b) (he : e4 e) (hm : mU (tp (cutR R)) a (tp (cutR R) 3 b - 1) e v) (hy : 0 ≤ tg (tp (cutR R)) 0 (cutR R 0 - 1) b e) : (Lv (tp (cutR R)) 0 (cutR R 0 - 1) v (tg (tp (cutR R)) 0 (cutR R 0 - 1) b e) → Lv (tp (cutR R)) 0 (cutR R 0 - 1) v a) ∧ (nS (tp (cutR R)) a v → nS (tp (cutR R)) (tg (tp (cutR R)) 0 (cutR R 0 - 1) b e) v) := by
  have hw := hG.1.1
  have n0 := hw.n0
  have e00 : tp (cutR R) 0 0 = cutR R 0 := rfl
  have hs' := hs
  obtain ⟨s0, s1, s2, s3, s4⟩ := hs
  have aj := hw.af (k := b) (by omega) s2
  obtain ⟨u, S, u0, u1, hr, hE, hS⟩ := hm
  obtain ⟨y, hE', hT⟩ := (ed_reg hw hG.1.2.1 hs' u0 (by omega) (TG.hl hG.1 (by omega) (by omega))).1 _ _ hE
  have ey : y = tg (tp (cutR R)) 0 (cutR R 0 - 1) b e := by
    rcases hT with ⟨q, -⟩ | ⟨e', q1, q2, q3⟩
    · unfold e4 at he; omega
    · have : e' = e := by omega
      rw [this] at q3; exact q3
  rw [ey] at hE'
  obtain ⟨-, lb'⟩ := Lv_back hG hs' hr
  refine ⟨fun h => lb' (h.go (by omega) (by rw [← e00]; omega) hE' hy hS), fun h => ⟨h.1, ?_⟩⟩
  have hu : Rw (tp (cutR R)) 0 (tp (cutR R) 0 0 - 1) (wV v) u := by
    refine hr (fun z => (a ≤ z ∧ z < tp (cutR R) 3 b) ∧ Rw (tp (cutR R)) 0 (tp (cutR R) 0 0 - 1) (wV v) z) ⟨⟨Int.le_refl _, by omega⟩, h.2⟩ (fun z x S' z0 z1 hz hEz x0 hS' => ?_) |>.2
    obtain ⟨y', hEy, hTy⟩ := (ed_reg hw hG.1.2.1 hs' z0 (by omega) (TG.hl hG.1 (by omega) (by omega))).1 _ _ hEz
    rcases hTy with ⟨q1, q2, q3⟩ | ⟨e', q1, q2, q3⟩
    · rw [q3] at hEy
      exact ⟨⟨q1, q2⟩, hz.2.go (by omega) (by omega) hEy x0 hS'⟩
    · unfold e4 at q1; omega
  exact hu.go (by omega) (by omega) hE' hy hS
theorem Inv.start : Inv R 0 3 := by
  intro v hv hl hn
  have t0 : tk R 0 = 0 := rfl
  rw [t0] at hn
  cases q : bt 3 v with
  | true => rfl
  | false => exact (hn ⟨q, Rw.at0⟩).elim
theorem Inv.ins (hG : Good R rho) {k B : Int} (k0 : 0 ≤ k) (k1 : k < ly R rho 0 0) (h7 : ly R rho 1 k = 7) (hI : Inv R k B) : ∀ v, v ∈ LIn R (cm R (clR R (tk R k))) → bt B (rn (rho (clR R (tk R k))) v).toNat = true := by
  obtain ⟨ne, hc, ea, -⟩ := hG.cnode k0 k1 h7
  have ok := (hG.2.2.2.2.1 _ hc.1 hc.2).2.2.2.2.2.2.2.2.2.2
  intro v hv
  have r8 := rn_rng (rho (clR R (tk R k))) v
  have := ok.1 (rn (rho (clR R (tk R k))) v).toNat (by rw [show (((rn (rho (clR R (tk R k))) v).toNat : Nat) : Int) = rn (rho (clR R (tk R k))) v by omega]; exact List.mem_map_of_mem hv)
  rw [ea] at this
  exact hI _ (by omega) this.1 this.2
theorem Inv.step (hG : Good R rho) {k B v : Int} (k0 : 0 ≤ k) (k1 : k < ly R rho 0 0) (h7 : ly R rho 1 k ≠ 7) (hI : Inv R k B) (hx : 0 ≤ nxA (ly R rho) 0 (ly R rho 0 0 - 1) k v) : Inv R (nxA (ly R rho) 0 (ly R rho 0 0 - 1) k v) (bS (ly R rho) k B) := by
  have hw := hG.1.1
  have e00 : tp (cutR R) 0 0 = cutR R 0 := rfl
  have hc : clR R (tk R k) = -1 := by
    refine Classical.byContradiction fun q => h7 ?_
    show (if clR R (tk R k) ≠ -1 then 7 else _) = (7 : Int)
    rw [if_pos q]
  have at' := hG.at (rho := rho) k0 (by omega)
  have tlt := (at'.2.2.2.2 k1).1
  have td := hG.1.2.2.2 (tk R k) at'.1 (by exact tlt)
  have e1 : ly R rho 1 k = cutR R (1 + tk R k) := by show (if clR R (tk R k) ≠ -1 then 7 else cutR R (1 + tk R k)) = _; rw [if_neg (fun q => q hc)]
  have e6 : ly R rho 6 k = cutR R (201 + tk R k) := by show (if clR R (tk R k) ≠ -1 then _ else cutR R (201 + tk R k)) = _; rw [if_neg (fun q => q hc)]
  have e20 : ly R rho 20 k = eK (ly R rho 1 k) := by
    rw [e1]; show (if clR R (tk R k) ≠ -1 then _ else tp (cutR R) 20 (tk R k)) = _; rw [if_neg (fun q => q hc)]; rfl
  obtain ⟨S, hE, hS⟩ := nx_ed (P := ly R rho) (f := 0) (t := ly R rho 0 0 - 1) (v := v) e20
  obtain ⟨y, hEy, hl⟩ := (ed_same hG k0 k1 hc).2 _ _ hE
  have ey : y = tk R (nxA (ly R rho) 0 (ly R rho 0 0 - 1) k v) := by
    rcases hl with ⟨a, b⟩ | ⟨a, b, c⟩
    · omega
    · exact c
  rw [ey] at hEy
  have y0 : 0 ≤ tk R (nxA (ly R rho) 0 (ly R rho 0 0 - 1) k v) := by
    rcases hl with ⟨a, b⟩ | ⟨a, b, c⟩
    · omega
    · exact (hG.at (rho := rho) a (by omega)).1
  intro w hw' hL hN
  cases q : bt S w with
  | true =>
    have z : ∀ w : Nat, bt 0 w = false := fun w => bt_0 w
    rcases hS with ⟨b, -⟩ | ⟨b, -⟩
    · rw [b, z] at q; cases q
    · have e21 : ly R rho 21 (16 * k + eK (ly R rho 1 k)) = tp (cutR R) 22 (tk R k) := by
        have h4 := eK_4 (ly R rho 1 k)
        unfold e4 at h4
        have d : (16 * k + eK (ly R rho 1 k)) / 16 = k := by omega
        show (if clR R (tk R ((16 * k + eK (ly R rho 1 k)) / 16)) ≠ -1 then _ else tp (cutR R) 22 (tk R ((16 * k + eK (ly R rho 1 k)) / 16))) = _
        rw [d, if_neg (fun q => q hc)]
      have e22 : tp (cutR R) 22 (tk R k) = (if cutR R (1 + tk R k) = 0 then ishl 1 (cutR R (201 + tk R k)) else 0) := rfl
      rw [b, e21, e22] at q
      by_cases c : cutR R (1 + tk R k) = 0
      · rw [if_pos c] at q
        have eb : bS (ly R rho) k B = ior B (ishl 1 (cutR R (201 + tk R k))) := by unfold bS; rw [if_pos (by rw [e1]; exact c), e6]
        rw [eb, bt_ior, q, Bool.or_true]
      · rw [if_neg c, z] at q; cases q
  | false =>
    refine bS_sup (hI w hw' (hL.go at'.1 (by omega) hEy y0 q) (fun hn => hN ⟨hn.1, ?_⟩))
    exact hn.2.go at'.1 (by omega) hEy y0 q
end V
