/-! The facts of the program with calls are those of the program told -/
section V
variable {R rho : Int → Int}
theorem TG.hl {A : Int → Int} (h : TG A) {u : Int} (u0 : 0 ≤ u) (u1 : u < A 0) : ∀ e, (e = 2 ∨ e = 4) → tp A 1 u ≠ 5 → tp A 1 u ≠ 6 → iand (tp A 20 u) e ≠ 0 → la (tp A) 0 40 (tp A 2 u) ≠ -1 := by
  intro e he _ _ hq
  obtain ⟨t1, t2, t3, t4, t5, t6, t7⟩ := h.2.2.2 u u0 u1
  refine t5 (Classical.byContradiction fun q => hq ?_)
  show iand (if A (1 + u) = 2 then (8 : Int) else if A (1 + u) = 3 then 2 else if A (1 + u) = 4 then 4 else 1) e = 0
  rw [if_neg (show ¬ A (1 + u) = 3 by omega), if_neg (show ¬ A (1 + u) = 4 by omega)]
  split
  · exact ex4 he (Or.inr rfl)
  · exact ex4 he (Or.inl rfl)
theorem TG.t21 {A : Int → Int} {k e : Int} (he : 0 ≤ e ∧ e < 16) : tp A 21 (16 * k + e) = tp A 22 k := by
  show (if A (1 + (16 * k + e) / 16) = 0 then ishl 1 (A (201 + (16 * k + e) / 16)) else 0) = _
  rw [show (16 * k + e) / 16 = k by omega]; rfl
theorem rset_shl {r u : Int} (hu : 0 ≤ u ∧ u < 8) : rset r (ishl 1 u) = ishl 1 (rn r u) := by
  refine m8_ext (m8_rset _ _) (m8_shl (rn_rng r u)) (fun w _ => bt_iffT ?_)
  rw [rset_bt, bt_shl (rn_rng r u), decide_eq_true_iff]
  constructor
  · rintro ⟨x, x0, x1, hb, e⟩
    rw [bt_shl hu, decide_eq_true_iff] at hb
    rw [show x = u by omega] at e; exact e.symm
  · intro e
    exact ⟨u, hu.1, hu.2, by rw [bt_shl hu, decide_eq_true_iff]; omega, e.symm⟩
theorem rset_0 {r : Int} : rset r 0 = 0 := by
  refine m8_ext (m8_rset _ _) m8_0 (fun w _ => bt_iffT ?_)
  rw [rset_bt, bt_0]
  constructor
  · rintro ⟨x, _, _, hb, _⟩; rw [bt_0] at hb; exact hb
  · intro q; cases q
/-- what is set in a span of the program told occurs there -/
theorem set_oc {A : Int → Int} (h : TG A) {f j x : Int} (hs : isp (tp A) f j) (x0 : 0 ≤ x) (x1 : x < tp A 3 j - f) {v : Nat} (hb : bt (tp A 22 (f + x)) v = true) : (v : Int) ∈ ocf (tp A) f j := by
  have aj := h.1.af (k := j) (by have := hs.1; have := hs.2.1; omega) hs.2.2.1
  have e00 : tp A 0 0 = A 0 := rfl
  rw [e00] at aj
  have s1 := hs.1
  have t := h.2.2.2 (f + x) (by omega) (by omega)
  have e22 : tp A 22 (f + x) = if A (1 + (f + x)) = 0 then ishl 1 (A (201 + (f + x))) else 0 := rfl
  rw [e22] at hb
  by_cases z : A (1 + (f + x)) = 0
  · rw [if_pos z, bt_shl (t.2.1 z), decide_eq_true_iff] at hb
    refine oc_ocs (k := f + x) ?_ _ f (by omega) (by omega)
    unfold oc
    rw [if_pos (show tp A 1 (f + x) = 0 from z), hb]
    exact List.mem_append_right _ (List.mem_singleton.mpr rfl)
  · rw [if_neg z, bt_0] at hb; cases hb
/-- a call's span and its method's: their shapes are the same, their sets are renamed -/
theorem Good.tw (h : Good R rho) {c : Int} (hc : 0 ≤ c ∧ c < R 789) : RG (tp (cutR R)) (mf0 R (cm R c)) (tp (cutR R) 3 (cz R c) - ca R c) ∧ Iso (tp (cutR R)) (mf0 R (cm R c)) (tp (cutR R)) (ca R c) (tp (cutR R) 3 (cz R c) - ca R c) ∧ ∀ x, 0 ≤ x → x < tp (cutR R) 3 (cz R c) - ca R c → tp (cutR R) 20 (mf0 R (cm R c) + x) = tp (cutR R) 20 (ca R c + x) ∧ tp (cutR R) 22 (ca R c + x) = rset (rho c) (tp (cutR R) 22 (mf0 R (cm R c) + x)) ∧ ∀ v : Nat, bt (tp (cutR R) 22 (mf0 R (cm R c) + x)) v = true → (v : Int) ∈ ocf (tp (cutR R)) (mf0 R (cm R c)) (ml0 R (cm R c)) := by
  obtain ⟨g1, g2, g3, g4, g5, g6, g7, g8, g9, g10, g11⟩ := h.2.2.2.2.1 c hc.1 hc.2
  have mg := h.2.2.1 _ g2.1 g2.2
  have rf := RG.of h.1.1 h.1.2.1 mg.1
  rw [← g3] at rf
  have hT := h.1
  have e00 : tp (cutR R) 0 0 = cutR R 0 := rfl
  have rfn := rf.2.2.2.1
  rw [e00] at rfn
  have rf0 := rf.2.1
  refine ⟨rf, fun x x0 x1 => ?_, fun x x0 x1 => ?_⟩
  · obtain ⟨w1, w2, w3, w4, w5, w6, w7⟩ := g4 x x0 x1
    refine ⟨w1.symm, w2.symm, ?_⟩
    rcases w3 with w3 | w3
    · exact Or.inl w3
    · exact Or.inr ⟨w3.1, by omega, w3.2.1.symm, w3.2.2.symm⟩
  · obtain ⟨w1, w2, w3, w4, w5, w6, w7⟩ := g4 x x0 x1
    have t := hT.2.2.2 (mf0 R (cm R c) + x) (by omega) (by omega)
    have a1 : cutR R (1 + (ca R c + x)) = cutR R (1 + (mf0 R (cm R c) + x)) := w1
    refine ⟨?_, ?_, fun v hv => ?_⟩
    · show (if cutR R (1 + (mf0 R (cm R c) + x)) = 2 then (8 : Int) else if cutR R (1 + (mf0 R (cm R c) + x)) = 3 then 2 else if cutR R (1 + (mf0 R (cm R c) + x)) = 4 then 4 else 1) = (if cutR R (1 + (ca R c + x)) = 2 then (8 : Int) else if cutR R (1 + (ca R c + x)) = 3 then 2 else if cutR R (1 + (ca R c + x)) = 4 then 4 else 1)
      rw [a1]
    · show (if cutR R (1 + (ca R c + x)) = 0 then ishl 1 (cutR R (201 + (ca R c + x))) else 0) = rset (rho c) (if cutR R (1 + (mf0 R (cm R c) + x)) = 0 then ishl 1 (cutR R (201 + (mf0 R (cm R c) + x))) else 0)
      rw [a1]
      by_cases z : cutR R (1 + (mf0 R (cm R c) + x)) = 0
      · rw [if_pos z, if_pos z, rset_shl (t.2.1 z)]
        have : cutR R (201 + (ca R c + x)) = rn (rho c) (cutR R (201 + (mf0 R (cm R c) + x))) := w6 z
        rw [this]
      · rw [if_neg z, if_neg z, rset_0]
    · exact set_oc hT mg.1 x0 (by omega) hv
/-- the exits of a call's span are its method's -/
theorem call_xE (h : Good R rho) {c e : Int} (hc : 0 ≤ c ∧ c < R 789) (he : e4 e) : xE (tp (cutR R)) (ca R c) (tp (cutR R) 3 (cz R c) - 1) e ↔ iand (R (768 + cm R c)) e ≠ 0 := by
  obtain ⟨rf, is, rw_⟩ := h.tw hc
  have ra := h.rgc hc
  obtain ⟨g1, g2, g3, g4, g5, g6, g7, g8, g9, g10, g11⟩ := h.2.2.2.2.1 c hc.1 hc.2
  have mg := h.2.2.1 _ g2.1 g2.2
  rw [mg.2.1, iand_sX he]
  have ea : ca R c + (tp (cutR R) 3 (cz R c) - ca R c) - 1 = tp (cutR R) 3 (cz R c) - 1 := by omega
  have ef : mf0 R (cm R c) + (tp (cutR R) 3 (cz R c) - ca R c) - 1 = tp (cutR R) 3 (ml0 R (cm R c)) - 1 := by omega
  constructor
  · intro z
    have := iso_xE (ES := fun _ _ => True) ra rf is.symm trivial (fun x x0 x1 => ⟨(rw_ x x0 x1).1.symm, fun _ _ _ => trivial⟩) he (by rw [ea]; exact z)
    rw [ef] at this; exact this
  · intro z
    have := iso_xE (ES := fun _ _ => True) rf ra is trivial (fun x x0 x1 => ⟨(rw_ x x0 x1).1, fun _ _ _ => trivial⟩) he (by rw [ef]; exact z)
    rw [ea] at this; exact this
theorem call_mU1 (h : Good R rho) {c e u : Int} (hc : 0 ≤ c ∧ c < R 789) (he : e4 e) (hu : 0 ≤ u ∧ u < 8) (hm : mU (tp (cutR R)) (ca R c) (tp (cutR R) 3 (cz R c) - 1) e (rn (rho c) u).toNat) : mU (tp (cutR R)) (mf0 R (cm R c)) (tp (cutR R) 3 (ml0 R (cm R c)) - 1) e u.toNat := by
  obtain ⟨rf, is, rw_⟩ := h.tw hc
  have ra := h.rgc hc
  have g3 := (h.2.2.2.2.1 c hc.1 hc.2).2.2.1
  have ea : ca R c + (tp (cutR R) 3 (cz R c) - ca R c) - 1 = tp (cutR R) 3 (cz R c) - 1 := by omega
  have ef : mf0 R (cm R c) + (tp (cutR R) 3 (cz R c) - ca R c) - 1 = tp (cutR R) 3 (ml0 R (cm R c)) - 1 := by omega
  have := iso_mU (ES := fun S S' => S = rset (rho c) S') ra rf is.symm rset_0.symm (fun x x0 x1 => ⟨(rw_ x x0 x1).1.symm, fun e' he' _ => ?_⟩) (v := (rn (rho c) u).toNat) (w := u.toNat) (fun S S' hS hb => ?_) he (by rw [ea]; exact hm)
  · rw [ef] at this; exact this
  · rw [TG.t21 (by omega), TG.t21 (by omega)]; exact (rw_ x x0 x1).2.1
  · cases hq : bt S' u.toNat
    · rfl
    · have := (rset_bt (rho c) S' (rn (rho c) u).toNat).mpr ⟨u, hu.1, hu.2, hq, by have := rn_rng (rho c) u; omega⟩
      rw [← hS, hb] at this; cases this
theorem call_mU2 (h : Good R rho) {c e u : Int} (hc : 0 ≤ c ∧ c < R 789) (he : e4 e) (hu : u ∈ ocf (tp (cutR R)) (mf0 R (cm R c)) (ml0 R (cm R c))) (hm : mU (tp (cutR R)) (mf0 R (cm R c)) (tp (cutR R) 3 (ml0 R (cm R c)) - 1) e u.toNat) : mU (tp (cutR R)) (ca R c) (tp (cutR R) 3 (cz R c) - 1) e (rn (rho c) u).toNat := by
  obtain ⟨rf, is, rw_⟩ := h.tw hc
  have ra := h.rgc hc
  obtain ⟨g1, g2, g3, g4, g5, g6, g7, g8, g9, g10, g11⟩ := h.2.2.2.2.1 c hc.1 hc.2
  have mg := h.2.2.1 _ g2.1 g2.2
  have u8 := ocf_8 h.1 mg.1 u hu
  have ea : ca R c + (tp (cutR R) 3 (cz R c) - ca R c) - 1 = tp (cutR R) 3 (cz R c) - 1 := by omega
  have ef : mf0 R (cm R c) + (tp (cutR R) 3 (cz R c) - ca R c) - 1 = tp (cutR R) 3 (ml0 R (cm R c)) - 1 := by omega
  have := iso_mU (ES := fun S S' => S' = rset (rho c) S ∧ ∀ v : Nat, bt S v = true → (v : Int) ∈ ocf (tp (cutR R)) (mf0 R (cm R c)) (ml0 R (cm R c))) rf ra is ⟨rset_0.symm, fun v q => by rw [bt_0] at q; cases q⟩ (fun x x0 x1 => ⟨(rw_ x x0 x1).1, fun e' he' _ => ?_⟩) (v := u.toNat) (w := (rn (rho c) u).toNat) (fun S S' hS hb => ?_) he (by rw [ef]; exact hm)
  · rw [ea] at this; exact this
  · rw [TG.t21 (by omega), TG.t21 (by omega)]; exact (rw_ x x0 x1).2
  · cases hq : bt S' (rn (rho c) u).toNat
    · rfl
    · rw [hS.1] at hq
      obtain ⟨x, x0, x1, xb, xe⟩ := (rset_bt _ _ _).mp hq
      have xo := hS.2 x.toNat xb
      rw [show ((x.toNat : Nat) : Int) = x by omega] at xo
      have := g5 x u xo hu (by have := rn_rng (rho c) u; omega)
      rw [this, hb] at xb; cases xb
/-- what a call sets -/
theorem call_sets (h : Good R rho) {c e : Int} (hc : 0 ≤ c ∧ c < R 789) (he : e4 e) (hx : xE (tp (cutR R)) (ca R c) (tp (cutR R) 3 (cz R c) - 1) e) {v : Nat} (hv : v < 8) : (bt (csets R c e) v = true → mU (tp (cutR R)) (ca R c) (tp (cutR R) 3 (cz R c) - 1) e v → (v : Int) ∈ rnl (rho c) (LIn R (cm R c))) ∧ (bt (csets R c e) v = false → (v : Int) ∈ rnl (rho c) (LOt R (cm R c)) → mU (tp (cutR R)) (ca R c) (tp (cutR R) 3 (cz R c) - 1) e v) := by
  obtain ⟨g1, g2, g3, g4, g5, g6, g7, g8, g9, g10, g11⟩ := h.2.2.2.2.1 c hc.1 hc.2
  have mg := h.2.2.1 _ g2.1 g2.2
  have xf : xE (tp (cutR R)) (mf0 R (cm R c)) (tp (cutR R) 3 (ml0 R (cm R c)) - 1) e := by
    have := (call_xE h hc he).mp hx
    rw [mg.2.1, iand_sX he] at this; exact this
  have must := mg.2.2.2.2 e he
  rw [cif1 xf] at must
  rw [csets_rset h hc]
  constructor
  · intro hb hm
    obtain ⟨u, u0, u1, ub, ue⟩ := (rset_bt _ _ _).mp hb
    rw [bt_iand, bt_ior, Bool.and_eq_true, Bool.or_eq_true] at ub
    rcases ub.1 with q | q
    · rw [must, bt_msk (by omega)] at q
      refine (q (call_mU1 h hc he ⟨u0, u1⟩ ?_)).elim
      rw [ue, Int.toNat_natCast]; exact hm
    · rw [mg.im h.1, show ((u.toNat : Nat) : Int) = u by omega] at q
      exact List.mem_map.mpr ⟨u, q, ue⟩
  · intro hb ho
    obtain ⟨u, uo, ue⟩ := List.mem_map.mp ho
    have u8 := mg.lo8 h.1 u uo
    have uocc : u ∈ ocf (tp (cutR R)) (mf0 R (cm R c)) (ml0 R (cm R c)) := by
      rcases (od_mem _ _ _).mp uo with q | q
      · cases q
      · exact q.1
    have nm : ¬ ¬ mU (tp (cutR R)) (mf0 R (cm R c)) (tp (cutR R) 3 (ml0 R (cm R c)) - 1) e u.toNat := by
      intro q
      have : bt (rset (rho c) (iand (ior (R (777 + 4 * cm R c + sp_place e)) (iM R (cm R c))) (oM R (cm R c)))) v = true := by
        refine (rset_bt _ _ _).mpr ⟨u, u8.1, u8.2, ?_, ue⟩
        rw [bt_iand, bt_ior, Bool.and_eq_true, Bool.or_eq_true]
        refine ⟨Or.inl (by rw [must, bt_msk (by omega)]; exact q), ?_⟩
        rw [mg.om h.1, show ((u.toNat : Nat) : Int) = u by omega]; exact uo
      rw [hb] at this; cases this
    have := call_mU2 h hc he uocc (Classical.byContradiction nm)
    rw [ue, Int.toNat_natCast] at this; exact this
/-- a call's node -/
theorem Good.cnode (h : Good R rho) {k : Int} (k0 : 0 ≤ k) (k1 : k < ly R rho 0 0) (h7 : ly R rho 1 k = 7) : clR R (tk R k) ≠ -1 ∧ (0 ≤ clR R (tk R k) ∧ clR R (tk R k) < R 789) ∧ ca R (clR R (tk R k)) = tk R k ∧ isp (tp (cutR R)) (tk R k) (cz R (clR R (tk R k))) ∧ tp (cutR R) 3 (cz R (clR R (tk R k))) = tk R (k + 1) ∧ ly R rho 20 k = R (768 + cm R (clR R (tk R k))) ∧ (∀ e, e4 e → ly R rho 21 (16 * k + e) = csets R (clR R (tk R k)) e) ∧ (∀ v : Nat, bt (ly R rho 10 k) v = true ↔ (v : Int) ∈ rnl (rho (clR R (tk R k))) (LIn R (cm R (clR R (tk R k))))) := by
  have cc := (h.cl7 k0 k1).1.mp h7
  obtain ⟨c0, c1, c2⟩ := clR_spec cc
  have ea : ca R (clR R (tk R k)) = tk R k := c2
  obtain ⟨g1, g2, g3, g4, g5, g6, g7, g8, g9, g10, g11⟩ := h.2.2.2.2.1 _ c0 c1
  have mg := h.2.2.1 _ g2.1 g2.2
  have t := tl_call h k0 k1 cc
  have e3 : ly R rho 3 k = k + 1 := by
    show (if clR R (tk R k) ≠ -1 then k + 1 else _) = _
    rw [if_pos cc]
  rw [ea] at g1
  refine ⟨cc, ⟨c0, c1⟩, ea, g1, by rw [t.2.2.1, e3], ?_, fun e he => ?_, fun v => ?_⟩
  · show (if clR R (tk R k) ≠ -1 then R (768 + R (870 + clR R (tk R k))) else _) = _
    rw [if_pos cc]
  · show (if clR R (tk R ((16 * k + e) / 16)) ≠ -1 then csets R (clR R (tk R ((16 * k + e) / 16))) ((16 * k + e) % 16) else _) = _
    rw [show (16 * k + e) / 16 = k by omega, show (16 * k + e) % 16 = e by omega, if_pos cc]
  · have e10 : ly R rho 10 k = lset (lpk (rnl (rho (clR R (tk R k))) (LIn R (cm R (clR R (tk R k)))))) := by
      show (if clR R (tk R k) ≠ -1 then lset (R (910 + clR R (tk R k))) else _) = _
      rw [if_pos cc, g6]
    rw [e10]
    exact lset_bt (by rw [List.length_map]; exact mg.2.2.1.2) rnl_8 v
/-- live behind a way within a span: live before it -/
theorem Lv_back (h : Good R rho) {a b u : Int} {v : Nat} (hs : isp (tp (cutR R)) a b) (hr : Rw (tp (cutR R)) a (tp (cutR R) 3 b - 1) (wV v) u) : (a ≤ u ∧ u < tp (cutR R) 3 b) ∧ (Lv (tp (cutR R)) 0 (cutR R 0 - 1) v u → Lv (tp (cutR R)) 0 (cutR R 0 - 1) v a) := by
  have hT := h.1
  have e00 : tp (cutR R) 0 0 = cutR R 0 := rfl
  have ab := hT.1.af (k := b) (by have := hs.1; have := hs.2.1; omega) hs.2.2.1
  have s1 := hs.1
  have s2 := hs.2.1
  rw [e00] at ab
  refine hr (fun u => (a ≤ u ∧ u < tp (cutR R) 3 b) ∧ (Lv (tp (cutR R)) 0 (cutR R 0 - 1) v u → Lv (tp (cutR R)) 0 (cutR R 0 - 1) v a)) ⟨by omega, id⟩ ?_
  rintro x y S x0 x1 ⟨⟨q0, q1⟩, q2⟩ he hy hS
  obtain ⟨y', e1, e2⟩ := (ed_reg hT.1 hT.2.1 hs (u := x) x0 (by omega) (hT.hl (by omega) (by omega))).1 y S he
  rw [e00] at e1
  rcases e2 with ⟨r1, r2, r3⟩ | ⟨e, e4', r1, r2⟩
  · refine ⟨⟨r1, r2⟩, fun z => q2 (Lv.step (by omega) (by omega) e1 (by omega) hS (by rw [r3]; exact z))⟩
  · omega
/-- A1: what is live with calls is live without -/
theorem Lv_told (h : Good R rho) {v : Nat} (hv : v < 8) {k : Int} (hk : Lv (ly R rho) 0 (ly R rho 0 0 - 1) v k) : 0 ≤ k ∧ k < ly R rho 0 0 ∧ Lv (tp (cutR R)) 0 (cutR R 0 - 1) v (tk R k) := by
  have hT := h.1
  have e00 : tp (cutR R) 0 0 = cutR R 0 := rfl
  refine hk (fun k => 0 ≤ k ∧ k < ly R rho 0 0 ∧ Lv (tp (cutR R)) 0 (cutR R 0 - 1) v (tk R k)) ?_ ?_
  · intro k k0 k1 hb
    have at_ := h.at k0 (by omega)
    have t1 := (at_.2.2.2.2 (by omega)).1
    refine ⟨k0, by omega, ?_⟩
    by_cases h7 : ly R rho 1 k = 7
    · obtain ⟨c1, c2, c3, c4, c5, c6, c7, c8⟩ := h.cnode k0 (by omega) h7
      have ok := (h.2.2.2.2.1 _ c2.1 c2.2).2.2.2.2.2.2.2.2.2.2.1 v ((c8 v).mp hb)
      rw [c3, e00] at ok
      exact ok.1
    · have cl := h.cl7 k0 (by omega)
      have nc : ¬ clR R (tk R k) ≠ -1 := fun w => h7 (cl.1.mpr w)
      have e10 : ly R rho 10 k = tp (cutR R) 10 (tk R k) := by
        show (if clR R (tk R k) ≠ -1 then lset (R (910 + clR R (tk R k))) else uses (cutR R) (tk R k)) = _
        rw [if_neg nc]; rfl
      rw [e10] at hb
      exact Lv.base at_.1 (by omega) hb
  · intro k x S k0 k1 he hx hS ⟨_, x1, hL⟩
    have at_ := h.at k0 (by omega)
    have t1 := (at_.2.2.2.2 (by omega)).1
    refine ⟨k0, by omega, ?_⟩
    by_cases h7 : ly R rho 1 k = 7
    · obtain ⟨c1, c2, c3, c4, c5, c6, c7, c8⟩ := h.cnode k0 (by omega) h7
      obtain ⟨ok1, ok2, ok3⟩ := (h.2.2.2.2.1 _ c2.1 c2.2).2.2.2.2.2.2.2.2.2.2
      rcases he with ⟨q1, _, _⟩ | ⟨_, _, e, he, q3, q4, q5⟩
      · omega
      rw [c6] at q3
      have xe := (call_xE h c2 he).mpr q3
      rw [q5, c7 e he] at hS
      have tg_ := lr_tg h (tl_call h k0 (by omega) c1) he
      rw [← q4] at tg_
      have ty : tg (tp (cutR R)) 0 (cutR R 0 - 1) (cz R (clR R (tk R k))) e = tk R x := by
        rcases tg_ with z | z
        · omega
        · exact z.2.2
      have xt := (h.at hx (by omega)).1
      have me : mU (tp (cutR R)) (ca R (clR R (tk R k))) (tp (cutR R) 3 (cz R (clR R (tk R k))) - 1) e v := by
        by_cases as : ∃ z, ca R (clR R (tk R k)) ≤ z ∧ z < tp (cutR R) 3 (cz R (clR R (tk R k))) ∧ bt (tp (cutR R) 22 z) v = true
        · refine (call_sets h c2 he xe hv).2 hS (ok2 v hv as ⟨e, he, xe, ?_⟩)
          unfold sL
          rw [e00, ty]
          exact ⟨xt, hL⟩
        · refine xE_mU (fun z y S' z0 z1 hz => ?_) xe
          rcases hz with ⟨_, z2, _⟩ | ⟨_, _, e', he', _, _, z2⟩
          · rw [z2, bt_0]
          · rw [z2, TG.t21 (by omega)]
            cases q : bt (tp (cutR R) 22 z) v
            · rfl
            · exact (as ⟨z, z0, by omega, q⟩).elim
      obtain ⟨u, S', u0, u1, u2, u3, u4⟩ := me
      rw [c3] at u0 u2 u3
      have bk := Lv_back h c4 u2
      refine bk.2 ?_
      obtain ⟨y', e1, e2⟩ := (ed_reg hT.1 hT.2.1 c4 (u := u) u0 (by omega) (hT.hl (by omega) (by have := (h.at (k := k + 1) (by omega) (by omega)).2.1; omega))).1 (-e) S' u3
      rw [e00] at e1
      rcases e2 with ⟨r1, r2, r3⟩ | ⟨e', e4', r1, r2⟩
      · omega
      · have ee : e' = e := by omega
        rw [ee, e00, ty] at r2
        have := (h.at (k := k + 1) (by omega) (by omega)).2.1
        exact Lv.step (by omega) (by omega) e1 (by omega) u4 (by rw [r2]; exact hL)
    · have cl := h.cl7 k0 (by omega)
      have nc : clR R (tk R k) = -1 := Classical.byContradiction fun w => h7 (cl.1.mpr w)
      obtain ⟨y, e1, e2⟩ := (ed_same h k0 (by omega) nc).2 x S he
      rcases e2 with z | z
      · omega
      · have xt := (h.at hx (by omega)).1
        refine Lv.step at_.1 (by omega) e1 (by omega) hS (by rw [z.2.2]; exact hL)
end V
