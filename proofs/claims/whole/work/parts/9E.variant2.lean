/-! .. and the other way round -/
/-- from t the span is left by exit e without v being set -/
def RB (T : Pg) (a t e : Int) (v : Nat) (u : Int) : Prop := ∀ Z : Int → Prop, (∀ u S, a ≤ u → u ≤ t → Ed T a t u (-e) S → bt S v = false → Z u) → (∀ u y S, a ≤ u → u ≤ t → Ed T a t u y S → 0 ≤ y → bt S v = false → Z y → Z u) → Z u
theorem RB.base {T : Pg} {a t e u S : Int} {v : Nat} (h0 : a ≤ u) (h1 : u ≤ t) (he : Ed T a t u (-e) S) (hS : bt S v = false) : RB T a t e v u := fun _ b _ => b u S h0 h1 he hS
theorem RB.step {T : Pg} {a t e u y S : Int} {v : Nat} (h0 : a ≤ u) (h1 : u ≤ t) (he : Ed T a t u y S) (hy : 0 ≤ y) (hS : bt S v = false) (h : RB T a t e v y) : RB T a t e v u := fun Z b s => s u y S h0 h1 he hy hS (h Z b s)
theorem RB.leaves {T : Pg} {a t e u : Int} {v : Nat} (h : RB T a t e v u) : Rw T a t (wV v) u → mU T a t e v := by
  refine h (fun u => Rw T a t (wV v) u → mU T a t e v) ?_ ?_
  · intro u S h0 h1 he hS hr; exact ⟨u, S, h0, h1, hr, he, hS⟩
  · intro u y S h0 h1 he hy hS hz hr; exact hz (Rw.step h0 h1 hr he hy hS)
section V
variable {R rho : Int → Int}
/-- live at a place within a call's span -/
def LT (R rho : Int → Int) (v : Nat) (k t : Int) : Prop := Lv (tp (cutR R)) (tk R k) (tk R (k + 1) - 1) v t ∨ ∃ e, e4 e ∧ RB (tp (cutR R)) (tk R k) (tk R (k + 1) - 1) e v t ∧ 0 ≤ tg (ly R rho) 0 (ly R rho 0 0 - 1) k e ∧ Lv (ly R rho) 0 (ly R rho 0 0 - 1) v (tg (ly R rho) 0 (ly R rho 0 0 - 1) k e)
theorem LT.up (h : Good R rho) {v : Nat} (hv : v < 8) {k : Int} (k0 : 0 ≤ k) (k1 : k < ly R rho 0 0) (h7 : ly R rho 1 k = 7) (hl : LT R rho v k (tk R k)) : Lv (ly R rho) 0 (ly R rho 0 0 - 1) v k := by
  obtain ⟨c1, c2, c3, c4, c5, c6, c7, c8⟩ := h.cnode k0 k1 h7
  obtain ⟨ok1, ok2, ok3⟩ := (h.2.2.2.2.1 _ c2.1 c2.2).2.2.2.2.2.2.2.2.2.2
  rcases hl with hl | ⟨e, he, hr, t0, ht⟩
  · have := ok3 v hv (by rw [c3, c5]; exact hl)
    exact Lv.base k0 (by omega) ((c8 v).mpr this)
  · have m := hr.leaves Rw.base
    have xe := mU_xE m
    have m' : mU (tp (cutR R)) (ca R (clR R (tk R k))) (tp (cutR R) 3 (cz R (clR R (tk R k))) - 1) e v := by rw [c3, c5]; exact m
    have xe' : xE (tp (cutR R)) (ca R (clR R (tk R k))) (tp (cutR R) 3 (cz R (clR R (tk R k))) - 1) e := mU_xE m'
    cases hb : bt (csets R (clR R (tk R k)) e) v
    · refine Lv.step (x := tg (ly R rho) 0 (ly R rho 0 0 - 1) k e) (S := ly R rho 21 (16 * k + e)) k0 (by omega) (Or.inr ⟨by omega, by omega, e, he, ?_, rfl, rfl⟩) t0 (by rw [c7 e he]; exact hb) ht
      rw [c6]; exact (call_xE h c2 he).mp xe'
    · have := (call_sets h c2 he xe' hv).1 hb m'
      exact Lv.base k0 (by omega) ((c8 v).mpr this)
/-- A2: what is live without calls is live with them -/
theorem Lv_lift (h : Good R rho) {v : Nat} (hv : v < 8) {t : Int} (ht : Lv (tp (cutR R)) 0 (cutR R 0 - 1) v t) : ∀ k, 0 ≤ k → k < ly R rho 0 0 → tk R k ≤ t → t < tk R (k + 1) → (ly R rho 1 k ≠ 7 → Lv (ly R rho) 0 (ly R rho 0 0 - 1) v k) ∧ (ly R rho 1 k = 7 → LT R rho v k t) := by
  have hT := h.1
  have e00 : tp (cutR R) 0 0 = cutR R 0 := rfl
  -- a statement without a call stands by itself
  have one : ∀ k, 0 ≤ k → k < ly R rho 0 0 → ly R rho 1 k ≠ 7 → tk R (k + 1) = tk R k + 1 ∧ clR R (tk R k) = -1 := by
    intro k k0 k1 h7
    have cl := h.cl7 k0 k1
    have nc : clR R (tk R k) = -1 := Classical.byContradiction fun w => h7 (cl.1.mpr w)
    have b := (h.at k0 (by omega)).2.2.2.2 k1
    refine ⟨?_, nc⟩
    rw [b.2]; unfold nxt; rw [if_neg (fun w => w nc)]
  refine ht (fun t => ∀ k, 0 ≤ k → k < ly R rho 0 0 → tk R k ≤ t → t < tk R (k + 1) → (ly R rho 1 k ≠ 7 → Lv (ly R rho) 0 (ly R rho 0 0 - 1) v k) ∧ (ly R rho 1 k = 7 → LT R rho v k t)) ?_ ?_
  · intro t t0 t1 hb k k0 k1 q0 q1
    refine ⟨fun h7 => ?_, fun h7 => Or.inl (Lv.base q0 (by omega) hb)⟩
    obtain ⟨o1, o2⟩ := one k k0 k1 h7
    have et : t = tk R k := by omega
    have e10 : ly R rho 10 k = tp (cutR R) 10 (tk R k) := by
      show (if clR R (tk R k) ≠ -1 then lset (R (910 + clR R (tk R k))) else uses (cutR R) (tk R k)) = _
      rw [if_neg (fun w => w o2)]; rfl
    exact Lv.base k0 (by omega) (by rw [e10, ← et]; exact hb)
  · intro t y S t0 t1 he hy hS hz k k0 k1 q0 q1
    -- a place that an edge leads to from outside is a statement
    have enter : ∀ x, 0 ≤ x → x < ly R rho 0 0 → y = tk R x → Lv (ly R rho) 0 (ly R rho 0 0 - 1) v x := by
      intro x x0 x1 ey
      have lt := h.lt x0 (show x < x + 1 by omega) (by omega)
      have q := hz x x0 x1 (by omega) (by omega)
      by_cases h7 : ly R rho 1 x = 7
      · have := q.2 h7
        rw [ey] at this
        exact LT.up h hv x0 x1 h7 this
      · exact q.1 h7
    refine ⟨fun h7 => ?_, fun h7 => ?_⟩
    · obtain ⟨o1, o2⟩ := one k k0 k1 h7
      have et : t = tk R k := by omega
      rw [et] at he
      obtain ⟨x, e1, e2⟩ := (ed_same h k0 k1 o2).1 y S he
      rcases e2 with z | z
      · omega
      · exact Lv.step k0 (by omega) e1 z.1 hS (enter x z.1 z.2.1 z.2.2)
    · obtain ⟨c1, c2, c3, c4, c5, c6, c7, c8⟩ := h.cnode k0 k1 h7
      have he' : Ed (tp (cutR R)) 0 (tp (cutR R) 0 0 - 1) t y S := by rw [e00]; exact he
      obtain ⟨y', e1, e2⟩ := (ed_reg hT.1 hT.2.1 c4 (u := t) q0 (by rw [c5]; exact q1) (hT.hl (by omega) (by omega))).2 y S he'
      rw [c5] at e1
      rcases e2 with ⟨r1, r2, r3⟩ | ⟨e, he4, r1, r2⟩
      · rw [c5] at r2
        have := (hz k k0 k1 (by omega) (by omega)).2 h7
        rw [r3] at this
        rcases this with z | ⟨e, z1, z2, z3, z4⟩
        · exact Or.inl (Lv.step q0 (by omega) e1 (by omega) hS z)
        · exact Or.inr ⟨e, z1, RB.step q0 (by omega) e1 (by omega) hS z2, z3, z4⟩
      · rw [e00] at r2
        have tg_ := lr_tg h (tl_call h k0 k1 c1) he4
        rw [← r2] at tg_
        rcases tg_ with z | z
        · omega
        · rw [r1] at e1
          exact Or.inr ⟨e, he4, RB.base q0 (by omega) e1 hS, z.1, enter _ z.1 z.2.1 z.2.2⟩
theorem Lv_iffT (h : Good R rho) {v : Nat} (hv : v < 8) {k : Int} (k0 : 0 ≤ k) (k1 : k < ly R rho 0 0) : Lv (ly R rho) 0 (ly R rho 0 0 - 1) v k ↔ Lv (tp (cutR R)) 0 (cutR R 0 - 1) v (tk R k) := by
  constructor
  · exact fun z => (Lv_told h hv z).2.2
  · intro z
    have lt := h.lt k0 (show k < k + 1 by omega) (by omega)
    have q := Lv_lift h hv z k k0 k1 (by omega) lt
    by_cases h7 : ly R rho 1 k = 7
    · exact LT.up h hv k0 k1 h7 (q.2 h7)
    · exact q.1 h7
/-- A3: what some way does not set without calls, some way does not set with them -/
theorem nS_lift (h : Good R rho) {v : Nat} (hv : v < 8) (h3 : bt 3 v = false) {t : Int} (ht : Rw (tp (cutR R)) 0 (cutR R 0 - 1) (wV v) t) : ∀ k, 0 ≤ k → k < ly R rho 0 0 → tk R k ≤ t → t < tk R (k + 1) → Rw (ly R rho) 0 (ly R rho 0 0 - 1) (wV v) k ∧ (ly R rho 1 k = 7 → Rw (tp (cutR R)) 0 (cutR R 0 - 1) (wV v) (tk R k) ∧ Rw (tp (cutR R)) (tk R k) (tk R (k + 1) - 1) (wV v) t) := by
  have hT := h.1
  have e00 : tp (cutR R) 0 0 = cutR R 0 := rfl
  have one : ∀ k, 0 ≤ k → k < ly R rho 0 0 → ly R rho 1 k ≠ 7 → tk R (k + 1) = tk R k + 1 ∧ clR R (tk R k) = -1 := by
    intro k k0 k1 h7
    have cl := h.cl7 k0 k1
    have nc : clR R (tk R k) = -1 := Classical.byContradiction fun w => h7 (cl.1.mpr w)
    have b := (h.at k0 (by omega)).2.2.2.2 k1
    refine ⟨?_, nc⟩
    rw [b.2]; unfold nxt; rw [if_neg (fun w => w nc)]
  -- two statements do not overlap
  have uniq : ∀ j k t, 0 ≤ j → j < ly R rho 0 0 → 0 ≤ k → k < ly R rho 0 0 → tk R j ≤ t → t < tk R (j + 1) → tk R k ≤ t → t < tk R (k + 1) → j = k := by
    intro j k t j0 j1 k0 k1 a1 a2 a3 a4
    refine Classical.byContradiction fun ne => ?_
    by_cases lt : j < k
    · by_cases e : j + 1 = k
      · rw [e] at a2; omega
      · have := h.lt (j := j + 1) (by omega) (k := k) (by omega) (by omega); omega
    · by_cases e : k + 1 = j
      · rw [e] at a4; omega
      · have := h.lt (j := k + 1) (by omega) (k := j) (by omega) (by omega); omega
  have all := ht (fun t => Rw (tp (cutR R)) 0 (cutR R 0 - 1) (wV v) t ∧ ∀ k, 0 ≤ k → k < ly R rho 0 0 → tk R k ≤ t → t < tk R (k + 1) → Rw (ly R rho) 0 (ly R rho 0 0 - 1) (wV v) k ∧ (ly R rho 1 k = 7 → Rw (tp (cutR R)) 0 (cutR R 0 - 1) (wV v) (tk R k) ∧ Rw (tp (cutR R)) (tk R k) (tk R (k + 1) - 1) (wV v) t)) ?_ ?_
  · exact all.2
  · refine ⟨Rw.base, fun k k0 k1 q0 q1 => ?_⟩
    have at_ := h.at k0 (by omega)
    have e : k = 0 := by
      have := at_.2.2.2.1
      have e0 : tk R k = 0 := by omega
      rw [e0] at this
      have z : ixn (clR R) (eR R) (0 : Int).toNat = 0 := rfl
      omega
    subst e
    exact ⟨Rw.base, fun _ => ⟨Rw.base, Rw.base⟩⟩
  · rintro t y S t0 t1 ⟨hr, hz⟩ he hy hS
    have hry := Rw.step t0 t1 hr he hy hS
    refine ⟨hry, fun x x0 x1 q0 q1 => ?_⟩
    -- the statement that t belongs to
    have ex : ∃ k, 0 ≤ k ∧ k < ly R rho 0 0 ∧ tk R k ≤ t ∧ t < tk R (k + 1) := by
      have g := nd_ixn h.spn t.toNat (by rw [e00]; omega)
      have f := nf_ge h.spn t.toNat (by rw [e00]; omega)
      by_cases q : nf (clR R) (eR R) t.toNat = t
      · have of := h.of (t := t) t0 (by omega) q
        have lt := of.2.2.2 (by omega)
        have l2 := h.lt of.1 (show ixn (clR R) (eR R) t.toNat < ixn (clR R) (eR R) t.toNat + 1 by omega) (by omega)
        rw [of.2.2.1] at l2
        exact ⟨_, of.1, lt, by rw [of.2.2.1]; omega, l2⟩
      · obtain ⟨a, a0, a1, a2, a3, a4⟩ := isN_cov h.spn t.toNat (by rw [e00]; omega) (by rw [show ((t.toNat : Nat) : Int) = t by omega]; exact q)
        have of := h.of (t := a) a0 (by omega) a2
        have lt := of.2.2.2 (by omega)
        have b := (h.at of.1 (by omega)).2.2.2.2 lt
        rw [of.2.2.1] at b
        refine ⟨_, of.1, lt, by rw [of.2.2.1]; omega, ?_⟩
        rw [b.2]; unfold nxt; rw [if_pos a3]; omega
    obtain ⟨k, k0, k1, r0, r1⟩ := ex
    obtain ⟨w1, w2⟩ := hz k k0 k1 r0 r1
    -- an edge leads to the statement x'
    have goes : ∀ x' S', 0 ≤ x' → x' < ly R rho 0 0 → y = tk R x' → Ed (ly R rho) 0 (ly R rho 0 0 - 1) k x' S' → bt S' v = false → Rw (ly R rho) 0 (ly R rho 0 0 - 1) (wV v) x ∧ (ly R rho 1 x = 7 → Rw (tp (cutR R)) 0 (cutR R 0 - 1) (wV v) (tk R x) ∧ Rw (tp (cutR R)) (tk R x) (tk R (x + 1) - 1) (wV v) y) := by
      intro x' S' y0 y1 ey e1 e2
      have lt := h.lt y0 (show x' < x' + 1 by omega) (by omega)
      have exx : x' = x := uniq x' x y y0 y1 x0 x1 (by omega) (by omega) q0 q1
      subst exx
      refine ⟨Rw.step k0 (by omega) w1 e1 y0 e2, fun _ => ?_⟩
      rw [← ey]
      exact ⟨hry, Rw.base⟩
    by_cases h7 : ly R rho 1 k = 7
    · obtain ⟨c1, c2, c3, c4, c5, c6, c7, c8⟩ := h.cnode k0 k1 h7
      obtain ⟨ok1, ok2, ok3⟩ := (h.2.2.2.2.1 _ c2.1 c2.2).2.2.2.2.2.2.2.2.2.2
      obtain ⟨v1, v2⟩ := w2 h7
      have he' : Ed (tp (cutR R)) 0 (tp (cutR R) 0 0 - 1) t y S := by rw [e00]; exact he
      obtain ⟨y', e1, e2⟩ := (ed_reg hT.1 hT.2.1 c4 (u := t) r0 (by rw [c5]; exact r1) (hT.hl (by omega) (by omega))).2 y S he'
      rw [c5] at e1
      rcases e2 with ⟨s1, s2, s3⟩ | ⟨e, he4, s1, s2⟩
      · rw [c5] at s2
        have exx : k = x := uniq k x y k0 k1 x0 x1 (by omega) (by omega) q0 q1
        subst exx
        refine ⟨w1, fun _ => ⟨v1, ?_⟩⟩
        rw [s3]
        exact Rw.step r0 (by omega) v2 e1 (by omega) hS
      · rw [e00] at s2
        have tg_ := lr_tg h (tl_call h k0 k1 c1) he4
        rw [← s2] at tg_
        rcases tg_ with z | z
        · omega
        · rw [s1] at e1
          have m' : mU (tp (cutR R)) (ca R (clR R (tk R k))) (tp (cutR R) 3 (cz R (clR R (tk R k))) - 1) e v := by
            rw [c3, c5]; exact ⟨t, S, r0, by omega, v2, e1, hS⟩
          have xe' := mU_xE m'
          refine goes _ (ly R rho 21 (16 * k + e)) z.1 z.2.1 z.2.2 (Or.inr ⟨by omega, by omega, e, he4, by rw [c6]; exact (call_xE h c2 he4).mp xe', rfl, rfl⟩) ?_
          rw [c7 e he4]
          cases hb : bt (csets R (clR R (tk R k)) e) v
          · rfl
          · have q := (call_sets h c2 he4 xe' hv).1 hb m'
            have := (ok1 v q).2
            rw [c3] at this
            exact (this ⟨h3, by rw [e00]; exact v1⟩).elim
    · obtain ⟨o1, o2⟩ := one k k0 k1 h7
      have et : t = tk R k := by omega
      rw [et] at he
      obtain ⟨x', e1, e2⟩ := (ed_same h k0 k1 o2).1 y S he
      rcases e2 with z | z
      · omega
      · exact goes x' S z.1 z.2.1 z.2.2 e1 hS
theorem nS_told (h : Good R rho) {v : Nat} (hv : v < 8) {k : Int} (k0 : 0 ≤ k) (k1 : k < ly R rho 0 0) (hn : nS (tp (cutR R)) (tk R k) v) : nS (ly R rho) k v := by
  have lt := h.lt k0 (show k < k + 1 by omega) (by omega)
  have e00 : tp (cutR R) 0 0 = cutR R 0 := rfl
  obtain ⟨h3, hr⟩ := hn
  rw [e00] at hr
  exact ⟨h3, (nS_lift h hv h3 hr k k0 k1 (by omega) lt).1⟩
end V
