/-! A span is lifted: what is to be shown of the rows -/
section W
variable {P : Pg}
theorem od_len_le {set : Int} : ∀ (L acc : List Int), (od set acc L).length ≤ acc.length + L.length := by
  intro L
  induction L with
  | nil => intro acc; exact Nat.le_refl _
  | cons a t ih =>
    intro acc
    have := ih (stp set acc a)
    have : (stp set acc a).length ≤ acc.length + 1 := by
      unfold stp
      split
      · rw [List.length_append]; exact Nat.le_refl _
      · omega
    show (od set (stp set acc a) t).length ≤ _
    rw [List.length_cons]; omega
theorem sy_len {k : Int} : ∀ (n : Nat) (i : Int), (sy P k n i).length = n := by
  intro n
  induction n with
  | zero => intro i; rfl
  | succ n ih => intro i; rw [sy, List.length_cons, ih]
theorem oc_len {k : Int} (h : 0 ≤ P 11 k) : ((oc P k).length : Int) ≤ P 11 k + (if P 1 k = 0 then 1 else 0) := by
  unfold oc
  rw [List.length_append]
  have a := List.length_filterMap_le vo (sy P k (P 11 k).toNat 0)
  rw [sy_len] at a
  by_cases c : P 1 k = 0
  · rw [if_pos c, if_pos c]; simp; omega
  · rw [if_neg c, if_neg c]; simp; omega
/-- the names that are assigned -/
def nam (P : Pg) : Nat → Int → List Int
  | 0, _ => []
  | n + 1, k => if P 1 k = 0 then P 6 k :: nam P n (k + 1) else nam P n (k + 1)
theorem nam_mem {v : Int} : ∀ (n : Nat) (k : Int), (∃ y, k ≤ y ∧ y < k + n ∧ P 1 y = 0 ∧ P 6 y = v) → v ∈ nam P n k := by
  intro n
  induction n with
  | zero => rintro k ⟨y, y0, y1, _⟩; omega
  | succ n ih =>
    rintro k ⟨y, y0, y1, y2, y3⟩
    rw [nam]
    by_cases e : y = k
    · subst e; rw [if_pos y2, y3]; exact List.mem_cons_self ..
    · have := ih (k + 1) ⟨y, by omega, by omega, y2, y3⟩
      split
      · exact List.mem_cons_of_mem _ this
      · exact this
/-- occurrences and assignments weigh no more than the text -/
theorem wt_occ : ∀ (n : Nat) (k : Int), 0 ≤ k → (∀ y, k ≤ y → y < k + n → 0 ≤ P 11 y) → ((ocs P n k).length : Int) + (nam P n k).length + n ≤ wt P (k.toNat + n) - wt P k.toNat := by
  intro n
  induction n with
  | zero => intro k k0 _; show ((0 : Nat) : Int) + ((0 : Nat) : Int) + ((0 : Nat) : Int) ≤ _; rw [Nat.add_zero]; omega
  | succ n ih =>
    intro k k0 h
    have i := ih (k + 1) (by omega) (fun y y0 y1 => h y (by omega) (by omega))
    have o := oc_len (P := P) (k := k) (h k (by omega) (by omega))
    have s := wt_step (T := P) k0
    rw [show (k + 1).toNat + n = k.toNat + (n + 1) by omega] at i
    rw [ocs, List.length_append, nam]
    by_cases c : P 1 k = 0
    · rw [if_pos c] at o s ⊢
      rw [List.length_cons]; omega
    · rw [if_neg c] at o s ⊢; omega
theorem wt_bound {I O k n : Int} (k0 : 0 ≤ k) (n0 : 0 < n) (h : ∀ y, k ≤ y → y < k + n → 0 ≤ P 11 y) (hO : ∀ v : Nat, bt O v = true → ∃ y, k ≤ y ∧ y < k + n ∧ P 1 y = 0 ∧ P 6 y = v) (h8 : ∀ v, v ∈ ocs P n.toNat k → 0 ≤ v ∧ v < 8) : ((od I [] (ocs P n.toNat k)).length : Int) + 1 + (od O [] (ocs P n.toNat k)).length ≤ wt P (k + n).toNat - wt P k.toNat := by
  have a := od_len_le (set := I) (ocs P n.toNat k) []
  have b : (od O [] (ocs P n.toNat k)).length ≤ (nam P n.toNat k).length := by
    refine List.Nodup.length_le_of_subset (od_nodup _ _ List.nodup_nil) (fun v hv => ?_)
    rcases (od_mem _ _ _).mp hv with q | q
    · cases q
    · have v8 := h8 v q.1
      obtain ⟨y, y0, y1, y2, y3⟩ := hO v.toNat q.2
      exact nam_mem _ _ ⟨y, y0, by omega, y2, by omega⟩
  have c := wt_occ (P := P) n.toNat k k0 (fun y y0 y1 => h y y0 (by omega))
  rw [show k.toNat + n.toNat = (k + n).toNat by omega] at c
  simp only [List.length_nil, Nat.zero_add] at a
  omega
/-- live in a span is live -/
theorem Lv_whole (hw : WF P) (h2 : WF2 P) (hl : ∀ u, 0 ≤ u → u < P 0 0 → ∀ e, (e = 2 ∨ e = 4) → P 1 u ≠ 5 → P 1 u ≠ 6 → iand (P 20 u) e ≠ 0 → la P 0 40 (P 2 u) ≠ -1) {i j : Int} (hs : isp P i j) {v : Nat} {k : Int} (h : Lv P i (P 3 j - 1) v k) : Lv P 0 (P 0 0 - 1) v k := by
  have aj := hw.af (k := j) (by have := hs.1; have := hs.2.1; omega) hs.2.2.1
  have s1 := hs.1
  refine h (Lv P 0 (P 0 0 - 1) v) (fun a a0 a1 hb => Lv.base (by omega) (by omega) hb) ?_
  intro a x S a0 a1 he hx hS hT
  obtain ⟨y, e1, e2⟩ := (ed_reg hw h2 hs a0 (by omega) (hl a (by omega) (by omega))).1 x S he
  rcases e2 with ⟨r1, r2, r3⟩ | ⟨e, e4', r1, r2⟩
  · rw [r3] at e1; exact Lv.step (by omega) (by omega) e1 hx hS hT
  · omega
theorem Lv_backP (hw : WF P) (h2 : WF2 P) (hl : ∀ u, 0 ≤ u → u < P 0 0 → ∀ e, (e = 2 ∨ e = 4) → P 1 u ≠ 5 → P 1 u ≠ 6 → iand (P 20 u) e ≠ 0 → la P 0 40 (P 2 u) ≠ -1) {i j : Int} (hs : isp P i j) {v : Nat} {e : Int} (he4 : e4 e) (hm : mU P i (P 3 j - 1) e v) (hL : sL P j e v) : Lv P 0 (P 0 0 - 1) v i := by
  have aj := hw.af (k := j) (by have := hs.1; have := hs.2.1; omega) hs.2.2.1
  have s1 := hs.1
  have s2 := hs.2.1
  obtain ⟨u, S, u0, u1, u2, u3, u4⟩ := hm
  have bk := u2 (fun u => (i ≤ u ∧ u < P 3 j) ∧ (Lv P 0 (P 0 0 - 1) v u → Lv P 0 (P 0 0 - 1) v i)) ⟨by omega, id⟩ (by
    rintro x y S x0 x1 ⟨⟨q0, q1⟩, q2⟩ he hy hS
    obtain ⟨y', e1, e2⟩ := (ed_reg hw h2 hs x0 (by omega) (hl x (by omega) (by omega))).1 y S he
    rcases e2 with ⟨r1, r2, r3⟩ | ⟨e, e4', r1, r2⟩
    · exact ⟨⟨r1, r2⟩, fun z => q2 (Lv.step (by omega) (by omega) e1 (by omega) hS (by rw [r3]; exact z))⟩
    · omega)
  refine bk.2 ?_
  obtain ⟨y', e1, e2⟩ := (ed_reg hw h2 hs u0 (by omega) (hl u (by omega) (by omega))).1 (-e) S u3
  rcases e2 with ⟨r1, r2, r3⟩ | ⟨e', e4', r1, r2⟩
  · omega
  · have ee : e' = e := by omega
    rw [ee] at r2
    rw [r2] at e1
    exact Lv.step (by omega) (by omega) e1 hL.1 u4 hL.2
/-- who leaves a span by break or continue is in a loop -/
theorem xE_la (hw : WF P) (hl : ∀ u, 0 ≤ u → u < P 0 0 → ∀ e, (e = 2 ∨ e = 4) → P 1 u ≠ 5 → P 1 u ≠ 6 → iand (P 20 u) e ≠ 0 → la P 0 40 (P 2 u) ≠ -1) {i j : Int} (hs : isp P i j) {e : Int} (he : e = 2 ∨ e = 4) (hx : xE P i (P 3 j - 1) e) : la P 0 40 (P 2 i) ≠ -1 := by
  have n0 := hw.n0
  have aj := hw.af (k := j) (by have := hs.1; have := hs.2.1; omega) hs.2.2.1
  have s1 := hs.1
  have s2 := hs.2.1
  obtain ⟨u, S, u0, u1, u2, u3⟩ := hx
  have pu := hw.pr (k := u) (by omega) (by omega)
  have bne : ∀ k, i ≤ k → k < P 3 j → bh P i (P 3 j - 1) 40 k ≠ -e := by
    intro k k0 k1 q
    rcases bh_rng hw (f := i) (t := P 3 j - 1) s1 (by omega) 40 k (by omega) (by omega) with z | z <;> omega
  rcases u3 with ⟨q1, q2, q3⟩ | ⟨q1, q2, e', he', q3, q4, q5⟩
  · exfalso
    have enr : ∀ s, en P i (P 3 j - 1) u s ≠ -e := by
      intro s
      unfold en
      by_cases c : fo P u s 40 (u + 1) ≠ -1
      · rw [if_pos c]
        have au := hw.af (k := u) (by omega) (by omega)
        rcases fo_spec (P := P) (k := u) (s := s) 40 (u + 1) (by omega) with z | z
        · exact (c z.1).elim
        · omega
      · rw [if_neg c]
        split
        · omega
        · exact bne u u0 (by omega)
    rcases q3 with q3 | q3
    · exact enr 0 q3.symm
    · exact enr 1 q3.symm
  · unfold tg at q4
    by_cases c1 : e' = 1
    · rw [if_pos c1] at q4; exact (bne u u0 (by omega) q4.symm).elim
    · rw [if_neg c1] at q4
      by_cases cl : la P i 40 (P 2 u) = -1
      · rw [if_pos (Or.inr cl)] at q4
        have l0 := hl u (by omega) (by omega) e' (by omega) q1 q2 q3
        rw [la_out hw hs 40 u u0 (by omega) (by omega) cl] at l0
        rw [hs.2.2.2.1]; exact l0
      · by_cases c8 : e' = 8
        · rw [if_pos (Or.inl c8)] at q4; omega
        · rw [if_neg (by omega)] at q4
          have lr_ := la_rng hw (f := i) s1 40 (P 2 u) (by omega)
          by_cases c2 : e' = 2
          · rw [if_pos c2] at q4
            exact (bne (la P i 40 (P 2 u)) (by omega) (by omega) q4.symm).elim
          · rw [if_neg c2] at q4; omega
end W
section N
variable {R rho : Int → Int}
/-- a span that becomes a call of the method made of span i .. j -/
def NSp (R rho : Int → Int) (i j f e r : Int) : Prop := isp (ly R rho) f e ∧ (∀ k, f ≤ k → k < ly R rho 3 e → ly R rho 1 k ≠ 7) ∧ ly R rho 3 e - f = ly R rho 3 j - i ∧ (∀ x, 0 ≤ x → x < ly R rho 3 j - i → twn (tp (cutR R)) r (tk R i) (tk R f) x) ∧ (∀ u v, u ∈ ocf (ly R rho) i j → v ∈ ocf (ly R rho) i j → rn r u = rn r v → u = v) ∧ sI (ly R rho) f e = rset r (sI (ly R rho) i j) ∧ sO (ly R rho) f e = rset r (sO (ly R rho) i j) ∧ sX (ly R rho) f (ly R rho 3 e - 1) = sX (ly R rho) i (ly R rho 3 j - 1) ∧ sB (ly R rho) f e = 0 ∧ sl_rg r
theorem m8_sI {P : Pg} {i j : Int} : m8 (sI P i j) := m8_msk _
theorem m8_sO {P : Pg} {i j : Int} : m8 (sO P i j) := m8_msk _
theorem Good.hlP (h : Good R rho) : ∀ u, 0 ≤ u → u < ly R rho 0 0 → ∀ e, (e = 2 ∨ e = 4) → ly R rho 1 u ≠ 5 → ly R rho 1 u ≠ 6 → iand (ly R rho 20 u) e ≠ 0 → la (ly R rho) 0 40 (ly R rho 2 u) ≠ -1 := fun u u0 u1 => (h.rdb.2.2.1 u u0 u1).2.2.2.2.2
/-- occurrences in a span without calls -/
theorem ocf_told {i j : Int} (hc : Cfr R rho i j) (hT : TG (cutR R)) : ocf (ly R rho) i j = ocf (tp (cutR R)) (tk R i) (tk R j) := by
  obtain ⟨c1, c2, c3, c4, c5, c6, c7, c8⟩ := hc
  have e00 : tp (cutR R) 0 0 = cutR R 0 := rfl
  have r4 := c6.2.2.2.1
  rw [e00] at r4
  have key : ∀ (n : Nat) (x : Int), 0 ≤ x → x + n ≤ ly R rho 3 j - i → ocs (ly R rho) n (i + x) = ocs (tp (cutR R)) n (tk R i + x) := by
    intro n
    induction n with
    | zero => intro x _ _; rfl
    | succ n ih =>
      intro x x0 x1
      obtain ⟨p4, p5, p6, p7, p10, p11, p20, p22, p21, p12⟩ := c8 x x0 (by omega)
      have k1 := (c7 x x0 (by omega)).1
      have t := hT.2.2.2 (tk R i + x) (by have := c6.2.1; omega) (by omega)
      have l12 : tp (cutR R) 11 (tk R i + x) ≤ 12 := t.2.2.1.2
      have esy : ∀ (m : Nat) (y : Int), 0 ≤ y → y + m ≤ 16 → sy (ly R rho) (i + x) m y = sy (tp (cutR R)) (tk R i + x) m y := by
        intro m
        induction m with
        | zero => intro y _ _; rfl
        | succ m ihm => intro y y0 y1; rw [sy, sy, ihm (y + 1) (by omega) (by omega), p12 y y0 (by omega)]
      have eo : oc (ly R rho) (i + x) = oc (tp (cutR R)) (tk R i + x) := by
        unfold oc
        rw [k1, p6, p11, esy _ 0 (by omega) (by omega)]
      rw [ocs, ocs, eo, show i + x + 1 = i + (x + 1) by omega, show tk R i + x + 1 = tk R i + (x + 1) by omega, ih (x + 1) (by omega) (by omega)]
  have := key (ly R rho 3 j - i).toNat 0 (by omega) (by have := c5.2.2.1; omega)
  rw [Int.add_zero, Int.add_zero] at this
  unfold ocf
  rw [this, c3, show tk R i + (ly R rho 3 j - i) - tk R i = ly R rho 3 j - i by omega]
theorem NSp.self (h : Good R rho) {i j : Int} (hs : isp (ly R rho) i j) (hn : ∀ k, i ≤ k → k < ly R rho 3 j → ly R rho 1 k ≠ 7) (hb : sB (ly R rho) i j = 0) : NSp R rho i j i j 16434824 := by
  have cf := h.cf hs hn
  have e00 : tp (cutR R) 0 0 = cutR R 0 := rfl
  have r4 := cf.2.2.2.2.2.1.2.2.2.1
  have r0 := cf.2.2.2.2.2.1.2.1
  rw [e00] at r4
  have o8 := ocf_8 h.1 cf.2.1
  rw [← ocf_told cf h.1] at o8
  refine ⟨hs, hn, rfl, fun x x0 x1 => ⟨rfl, rfl, ?_, rfl, rfl, fun z => ?_, fun y y0 y1 => by rw [ren_same]⟩, fun u v hu hv e => ?_, (rset_same m8_sI).symm, (rset_same m8_sO).symm, rfl, hb, by omega⟩
  · by_cases q : tp (cutR R) 2 (tk R i + x) < tk R i
    · exact Or.inl ⟨q, q⟩
    · exact Or.inr ⟨by omega, rfl, rfl⟩
  · have t := (h.1.2.2.2 (tk R i + x) (by omega) (by omega)).2.1 z
    exact (rn_same t).symm
  · rw [rn_same (o8 u hu), rn_same (o8 v hv)] at e; exact e
theorem rg_pn {to : Int → Int} : ∀ (n : Nat) (v a : Int), sl_rg a → sl_rg (pn to n v a) := by
  intro n
  induction n with
  | zero => intro v a h; exact h
  | succ n ih =>
    intro v a h
    rw [pn]
    refine ih _ _ ?_
    split
    · exact h
    · exact rg_ior _ _
theorem NSp.cand (h : Good R rho) {i j f : Int} {to : Int → Int} (hs : isp (ly R rho) i j) (hn : ∀ k, i ≤ k → k < ly R rho 3 j → ly R rho 1 k ≠ 7) (hf : 0 ≤ f ∧ f < ly R rho 0 0) (hc : cand (ly R rho) i j f = some to) : NSp R rho i j f (lsf (ly R rho) i j f) (pkn to) ∧ Inj to ∧ (∀ v, 0 ≤ v → v < 8 → (to v ≠ -1 ↔ v ∈ ocf (ly R rho) i j)) ∧ ∀ v, v ∈ ocf (ly R rho) i j → rn (pkn to) v = to v := by
  have hw := h.wf
  obtain ⟨c1, c2⟩ := cand_inv hc
  obtain ⟨p1, p2⟩ := cand_isp hw hf c2
  obtain ⟨d1, d2, d3, d4, d5, d6, d7, d8⟩ := c2
  have hs' := hs
  obtain ⟨s1, s2, s3, s4, s5⟩ := hs
  have aj := hw.af (k := j) (by omega) s3
  have hn' : ∀ k, f ≤ k → k < ly R rho 3 (lsf (ly R rho) i j f) → ly R rho 1 k ≠ 7 := by
    intro k k0 k1
    have := d4 (k - f) (by omega) (by omega)
    have q2 := this.2.1
    rw [show f + (k - f) = k by omega] at q2
    rw [← q2]; exact this.1
  have ci := h.cf hs' hn
  have cff := h.cf p1 hn'
  have prs := h.prs
  have nsp := nms_spec (P := ly R rho) (i := i) (f := f) _ 0 (fun _ => -1) to (fun y y0 y1 => by
    have q1 := prs (i + y) (by omega) (by omega)
    have q2 := prs (f + y) (by omega) (by omega)
    exact ⟨q1.1.1, fun z => ((q1.2.1 (by omega)).2.2 z).2, fun z => ((q2.2.1 (by omega)).2.2 z).2, (d4 y y0 (by omega)).2.1⟩) Inj.none c1
  rw [Int.add_zero] at nsp
  have o8 := ocf_8 h.1 ci.2.1
  rw [← ocf_told ci h.1] at o8
  have dom : ∀ v, 0 ≤ v → v < 8 → (to v ≠ -1 ↔ v ∈ ocf (ly R rho) i j) := fun v v0 v1 => by
    rw [nsp.2.2.1 v v0 v1]
    constructor
    · rintro (z | z)
      · exact (z rfl).elim
      · exact z
    · exact fun z => Or.inr z
  have rnv : ∀ v, v ∈ ocf (ly R rho) i j → rn (pkn to) v = to v := fun v hv => rn_pkn nsp.1.1 (o8 v hv) ((dom v (o8 v hv).1 (o8 v hv).2).mpr hv)
  have e00 : tp (cutR R) 0 0 = cutR R 0 := rfl
  have r4 := ci.2.2.2.2.2.1.2.2.2.1
  have r0 := ci.2.2.2.2.2.1.2.1
  rw [e00] at r4
  refine ⟨⟨p1, hn', d2, fun x x0 x1 => ?_, fun u v hu hv e => ?_, d7, d8, d6, d5, rg_pn _ _ _ sl_rg0⟩, nsp.1, dom, rnv⟩
  · -- statement f + x is statement i + x, renamed
    obtain ⟨a1, a3, a2⟩ := ci.2.2.2.2.2.2.1 x x0 x1
    obtain ⟨b1, b3, b2⟩ := cff.2.2.2.2.2.2.1 x x0 (by omega)
    obtain ⟨u4, u5, u6, u7, u10, u11, u20, u22, u21, u12⟩ := ci.2.2.2.2.2.2.2 x x0 x1
    obtain ⟨w4, w5, w6, w7, w10, w11, w20, w22, w21, w12⟩ := cff.2.2.2.2.2.2.2 x x0 (by omega)
    have rgT := cff.2.2.2.2.2.1
    rw [d2] at rgT
    have sq := (shp_shq ci cff d2).mp d4
    have iso := shq_iso ci.2.2.2.2.2.1 rgT (fun x x0 x1 => (sq x x0 x1).2) x x0 x1
    obtain ⟨q1, q5, q11, q2⟩ := (sq x x0 x1).2
    obtain ⟨n6, n12⟩ := nsp.2.2.2 x x0 (by omega)
    have t := h.1.2.2.2 (tk R i + x) (by omega) (by omega)
    have l12 : tp (cutR R) 11 (tk R i + x) ≤ 12 := t.2.2.1.2
    refine ⟨q1.symm, iso.2.1.symm, ?_, q5.symm, q11.symm, fun z => ?_, fun y y0 y1 => ?_⟩
    · rcases q2 with q2 | q2
      · exact Or.inl q2
      · exact Or.inr ⟨q2.1, q2.2.2.1.symm, q2.2.2.2.symm⟩
    · have z0 : ly R rho 1 (i + x) = 0 := by rw [a1]; exact z
      have e := n6 z0
      rw [w6, u6] at e
      rw [e, rnv]
      refine oc_ocs (k := i + x) ?_ _ i (by omega) (by omega)
      unfold oc
      rw [if_pos z0, u6]
      exact List.mem_append_right _ (List.mem_singleton.mpr rfl)
    · have y1' : y < ly R rho 11 (i + x) := by rw [u11]; exact y1
      have e := n12 y y0 y1'
      rw [u12 y y0 (by omega), w12 y y0 (by omega)] at e
      unfold ren sp_var
      by_cases c : 97 ≤ tp (cutR R) 12 (16 * (tk R i + x) + y) ∧ tp (cutR R) 12 (16 * (tk R i + x) + y) < 105
      · rw [if_pos c, if_pos (by omega), e.1 (by omega), rnv]
        refine oc_ocs (k := i + x) ?_ _ i (by omega) (by omega)
        unfold oc
        refine List.mem_append_left _ (List.mem_filterMap.mpr ⟨tp (cutR R) 12 (16 * (tk R i + x) + y), ?_, by unfold vo; rw [if_pos (by omega)]⟩)
        have : ∀ (n : Nat) (z : Int), z ≤ y → y < z + n → ly R rho 12 (16 * (i + x) + y) ∈ sy (ly R rho) (i + x) n z := by
          intro n
          induction n with
          | zero => intro z _ _; omega
          | succ n ih =>
            intro z z0 z1
            rw [sy]
            by_cases ez : y = z
            · rw [← ez]; exact List.mem_cons_self ..
            · exact List.mem_cons_of_mem _ (ih (z + 1) (by omega) (by omega))
        have q := this (ly R rho 11 (i + x)).toNat 0 y0 (by omega)
        rw [u12 y y0 (by omega)] at q
        exact q
      · rw [if_neg c, if_neg (by omega)]; exact e.2 (by omega)
  · have tu := (dom u (o8 u hu).1 (o8 u hu).2).mpr hu
    rw [rnv u hu, rnv v hv] at e
    exact nsp.1.2 u v (o8 u hu).1 (o8 u hu).2 (o8 v hv).1 (o8 v hv).2 e tu
end N
