/-! The row behind a lift is as it must be -/
/-- a new call in the row R2: span f .. e of the program, renaming r -/
def NCl (R rho R2 : Int → Int) (i j c f e r : Int) : Prop := R2 (790 + c) = tk R f ∧ R2 (830 + c) = tk R e ∧ R2 (870 + c) = R 761 ∧ R2 (910 + c) = lpk (rnl r (od (sI (ly R rho) i j) [] (ocf (ly R rho) i j))) ∧ R2 (950 + c) = lpk (rnl r (od (sO (ly R rho) i j) [] (ocf (ly R rho) i j))) ∧ NSp R rho i j f e r
/-- the new method -/
def NMt (R rho R2 : Int → Int) (i j : Int) : Prop := R2 (762 + R 761) = tk R i ∧ R2 (765 + R 761) = tk R j ∧ R2 (768 + R 761) = sX (ly R rho) i (ly R rho 3 j - 1) ∧ R2 (771 + R 761) = lpk (od (sI (ly R rho) i j) [] (ocf (ly R rho) i j)) ∧ R2 (774 + R 761) = lpk (od (sO (ly R rho) i j) [] (ocf (ly R rho) i j)) ∧ ∀ e, e4 e → R2 (777 + 4 * R 761 + sp_place e) = cif (xE (ly R rho) i (ly R rho 3 j - 1) e) (msk fun v => ¬ mU (ly R rho) i (ly R rho 3 j - 1) e v) 255
/-- R2 is R, with span i .. j lifted; new calls: fs c .. es c, renaming rho2 c, for c from R 789 on -/
def Lft (R rho R2 rho2 : Int → Int) (i j : Int) (fs es : Int → Int) : Prop := (∀ q, 0 ≤ q → q ≤ 760 → R2 q = R q) ∧ R2 761 = R 761 + 1 ∧ R 761 ≤ 2 ∧
  (∀ k, 0 ≤ k → k < R 761 → R2 (762 + k) = R (762 + k) ∧ R2 (765 + k) = R (765 + k) ∧ R2 (768 + k) = R (768 + k) ∧ R2 (771 + k) = R (771 + k) ∧ R2 (774 + k) = R (774 + k) ∧ ∀ x, 0 ≤ x → x < 4 → R2 (777 + 4 * k + x) = R (777 + 4 * k + x)) ∧
  NMt R rho R2 i j ∧ (R 789 ≤ R2 789 ∧ R2 789 ≤ 40) ∧
  (∀ c, 0 ≤ c → c < R 789 → rho2 c = rho c ∧ R2 (790 + c) = R (790 + c) ∧ R2 (830 + c) = R (830 + c) ∧ R2 (870 + c) = R (870 + c) ∧ R2 (910 + c) = R (910 + c) ∧ R2 (950 + c) = R (950 + c)) ∧
  (∀ c, R 789 ≤ c → c < R2 789 → NCl R rho R2 i j c (fs c) (es c) (rho2 c)) ∧
  (∀ c d, R 789 ≤ c → c < R2 789 → R 789 ≤ d → d < R2 789 → c ≠ d → ly R rho 3 (es c) ≤ fs d ∨ ly R rho 3 (es d) ≤ fs c) ∧
  isp (ly R rho) i j ∧ (∀ k, i ≤ k → k < ly R rho 3 j → ly R rho 1 k ≠ 7) ∧ sB (ly R rho) i j = 0
section L
variable {R rho R2 rho2 fs es : Int → Int} {i j : Int}
theorem sB_0 {P : Pg} {i j : Int} (h : sB P i j = 0) : pcn (sI P i j) ≤ 4 ∧ pcn (sO P i j) ≤ 3 ∧ ∀ v : Nat, v < 8 → bt (sI P i j) v = true → ¬ nS P i v := by
  unfold sB at h
  by_cases c : ∃ k, i ≤ k ∧ k < P 3 j ∧ P 1 k = 7
  · rw [cif1 c] at h; omega
  · rw [cif0 c] at h
    by_cases d : 4 < pcn (sI P i j) ∨ 3 < pcn (sO P i j)
    · rw [if_pos d] at h; omega
    · rw [if_neg d] at h
      refine ⟨by omega, by omega, fun v hv hb hn => ?_⟩
      rw [cif1 ⟨v, hv, hb, hn⟩] at h; omega
/-- the lists of a span without calls -/
theorem lists_sp (h : Good R rho) (hs : isp (ly R rho) i j) (hn : ∀ k, i ≤ k → k < ly R rho 3 j → ly R rho 1 k ≠ 7) (hb : sB (ly R rho) i j = 0) : (∀ v, v ∈ ocf (ly R rho) i j → 0 ≤ v ∧ v < 8) ∧ (od (sI (ly R rho) i j) [] (ocf (ly R rho) i j)).length ≤ 4 ∧ (od (sO (ly R rho) i j) [] (ocf (ly R rho) i j)).length ≤ 3 ∧ (∀ v : Nat, v < 8 → (bt (sI (ly R rho) i j) v = true ↔ (v : Int) ∈ od (sI (ly R rho) i j) [] (ocf (ly R rho) i j))) ∧ (∀ v : Nat, v < 8 → (bt (sO (ly R rho) i j) v = true ↔ (v : Int) ∈ od (sO (ly R rho) i j) [] (ocf (ly R rho) i j))) := by
  have cf := h.cf hs hn
  have o8 := ocf_8 h.1 cf.2.1
  rw [← ocf_told cf h.1] at o8
  have mi : ∀ v : Nat, v < 8 → (bt (sI (ly R rho) i j) v = true ↔ (v : Int) ∈ od (sI (ly R rho) i j) [] (ocf (ly R rho) i j)) := fun v hv => by
    rw [od_mem]
    constructor
    · exact fun z => Or.inr ⟨in_oc h hs hn hv z, by rw [Int.toNat_natCast]; exact z⟩
    · rintro (z | z)
      · cases z
      · have := z.2; rw [Int.toNat_natCast] at this; exact this
  have mo : ∀ v : Nat, v < 8 → (bt (sO (ly R rho) i j) v = true ↔ (v : Int) ∈ od (sO (ly R rho) i j) [] (ocf (ly R rho) i j)) := fun v hv => by
    rw [od_mem]
    constructor
    · exact fun z => Or.inr ⟨out_oc h hs hn hv z, by rw [Int.toNat_natCast]; exact z⟩
    · rintro (z | z)
      · cases z
      · have := z.2; rw [Int.toNat_natCast] at this; exact this
  have b := sB_0 hb
  have p1 := pcn_len (od_nodup _ _ List.nodup_nil) (od_8 o8) mi
  have p2 := pcn_len (od_nodup _ _ List.nodup_nil) (od_8 o8) mo
  exact ⟨o8, by omega, by omega, mi, mo⟩
theorem rnl_set {r m : Int} {L : List Int} (h8 : ∀ v, v ∈ L → 0 ≤ v ∧ v < 8) (hm : ∀ v : Nat, v < 8 → (bt m v = true ↔ (v : Int) ∈ L)) (w : Nat) : (w : Int) ∈ rnl r L ↔ bt (rset r m) w = true := by
  rw [rset_bt, List.mem_map]
  constructor
  · rintro ⟨x, hx, e⟩
    have := h8 x hx
    exact ⟨x, this.1, this.2, (hm x.toNat (by omega)).mpr (by rw [show ((x.toNat : Nat) : Int) = x by omega]; exact hx), e⟩
  · rintro ⟨x, x0, x1, hb, e⟩
    refine ⟨x, ?_, e⟩
    have := (hm x.toNat (by omega)).mp hb
    rwa [show ((x.toNat : Nat) : Int) = x by omega] at this
/-- two rows that are the same -/
theorem cf_ES (h : Good R rho) {f e : Int} (cf : Cfr R rho f e) : ∀ x, 0 ≤ x → x < ly R rho 3 e - f → ly R rho 20 (f + x) = tp (cutR R) 20 (tk R f + x) ∧ ∀ q, e4 q → iand (ly R rho 20 (f + x)) q ≠ 0 → ly R rho 21 (16 * (f + x) + q) = tp (cutR R) 21 (16 * (tk R f + x) + q) := by
  intro x x0 x1
  obtain ⟨p4, p5, p6, p7, p10, p11, p20, p22, p21, p12⟩ := cf.2.2.2.2.2.2.2 x x0 x1
  exact ⟨p20, fun q hq _ => p21 q (by omega) (by omega)⟩
theorem cf_xE (h : Good R rho) {f e q : Int} (cf : Cfr R rho f e) (hq : e4 q) : xE (ly R rho) f (ly R rho 3 e - 1) q ↔ xE (tp (cutR R)) (tk R f) (tp (cutR R) 3 (tk R e) - 1) q := by
  have E := cf_ES h cf
  obtain ⟨c1, c2, c3, c4, c5, c6, c7, c8⟩ := cf
  have ea : f + (ly R rho 3 e - f) - 1 = ly R rho 3 e - 1 := by omega
  rw [c3]
  constructor
  · intro z
    exact iso_xE (ES := Eq) c5 c6 c7 rfl E hq (by rw [ea]; exact z)
  · intro z
    have := iso_xE (ES := Eq) c6 c5 c7.symm rfl (fun x x0 x1 => ⟨(E x x0 x1).1.symm, fun q hq w => ((E x x0 x1).2 q hq (by rw [(E x x0 x1).1]; exact w)).symm⟩) hq z
    rw [ea] at this; exact this
theorem cf_mU (h : Good R rho) {f e q : Int} {v : Nat} (cf : Cfr R rho f e) (hq : e4 q) : mU (ly R rho) f (ly R rho 3 e - 1) q v ↔ mU (tp (cutR R)) (tk R f) (tp (cutR R) 3 (tk R e) - 1) q v := by
  have E := cf_ES h cf
  obtain ⟨c1, c2, c3, c4, c5, c6, c7, c8⟩ := cf
  have ea : f + (ly R rho 3 e - f) - 1 = ly R rho 3 e - 1 := by omega
  rw [c3]
  constructor
  · intro z
    exact iso_mU (ES := Eq) c5 c6 c7 rfl E (v := v) (w := v) (fun S S' e q => by rw [← e]; exact q) hq (by rw [ea]; exact z)
  · intro z
    have := iso_mU (ES := Eq) c6 c5 c7.symm rfl (fun x x0 x1 => ⟨(E x x0 x1).1.symm, fun q hq w => ((E x x0 x1).2 q hq (by rw [(E x x0 x1).1]; exact w)).symm⟩) (v := v) (w := v) (fun S S' e q => by rw [← e]; exact q) hq z
    rw [ea] at this; exact this
theorem Lft.cut (hX : Lft R rho R2 rho2 i j fs es) : cutR R2 = cutR R := cutR_congr hX.1
/-- the new method's facts -/
theorem Lft.meth (h : Good R rho) (hX : Lft R rho R2 rho2 i j fs es) : mf0 R2 (R 761) = tk R i ∧ ml0 R2 (R 761) = tk R j ∧ iM R2 (R 761) = sI (ly R rho) i j ∧ oM R2 (R 761) = sO (ly R rho) i j ∧ LIn R2 (R 761) = od (sI (ly R rho) i j) [] (ocf (ly R rho) i j) ∧ LOt R2 (R 761) = od (sO (ly R rho) i j) [] (ocf (ly R rho) i j) := by
  have hc := hX.cut
  obtain ⟨x1, x2, x3, x4, nm, x6, x7, x8, x9, hs, hn, hb⟩ := hX
  obtain ⟨n1, n2, n3, n4, n5, n6⟩ := nm
  have cf := h.cf hs hn
  obtain ⟨o8, l1, l2, m1, m2⟩ := lists_sp h hs hn hb
  have oc_ := ocf_told cf h.1
  have ei : iM R2 (R 761) = sI (ly R rho) i j := by
    show lset (R2 (771 + R 761)) = _
    rw [n4]
    exact m8_ext (m8_lset l1 (od_8 o8)) m8_sI (fun v hv => bt_iffT ((lset_bt l1 (od_8 o8) v).trans (m1 v hv).symm))
  have eo : oM R2 (R 761) = sO (ly R rho) i j := by
    show lset (R2 (774 + R 761)) = _
    rw [n5]
    exact m8_ext (m8_lset (by omega) (od_8 o8)) m8_sO (fun v hv => bt_iffT ((lset_bt (by omega) (od_8 o8) v).trans (m2 v hv).symm))
  have e1 : mf0 R2 (R 761) = tk R i := n1
  have e2 : ml0 R2 (R 761) = tk R j := n2
  refine ⟨e1, e2, ei, eo, ?_, ?_⟩
  · unfold LIn
    rw [ei, e1, e2, hc, ← oc_]
  · unfold LOt
    rw [eo, e1, e2, hc, ← oc_]
/-- a new call keeps what calls keep -/
theorem NSp.ok (h : Good R rho) (hs : isp (ly R rho) i j) (hn : ∀ k, i ≤ k → k < ly R rho 3 j → ly R rho 1 k ≠ 7) (hb : sB (ly R rho) i j = 0) {f e r : Int} (hN : NSp R rho i j f e r) : CallOK (tp (cutR R)) (tk R f) (tk R e) (rnl r (od (sI (ly R rho) i j) [] (ocf (ly R rho) i j))) (rnl r (od (sO (ly R rho) i j) [] (ocf (ly R rho) i j))) := by
  obtain ⟨p1, p2, p3, p4, p5, p6, p7, p8, p9, p10⟩ := hN
  have hw := h.wf
  have h2 := h.wf2
  have cf := h.cf p1 p2
  have e00 : tp (cutR R) 0 0 = cutR R 0 := rfl
  obtain ⟨o8, l1, l2, m1, m2⟩ := lists_sp h hs hn hb
  have iI : ∀ w : Nat, (w : Int) ∈ rnl r (od (sI (ly R rho) i j) [] (ocf (ly R rho) i j)) ↔ bt (sI (ly R rho) f e) w = true := fun w => by rw [p6]; exact rnl_set (od_8 o8) m1 w
  have iO : ∀ w : Nat, (w : Int) ∈ rnl r (od (sO (ly R rho) i j) [] (ocf (ly R rho) i j)) ↔ bt (sO (ly R rho) f e) w = true := fun w => by rw [p7]; exact rnl_set (od_8 o8) m2 w
  have f0 := p1.1
  have f1 := p1.2.1
  have f2 := p1.2.2.1
  have ae := hw.af (k := e) (by omega) f2
  refine ⟨fun v hv => ?_, fun v hv ha hl => ?_, fun v hv hl => ?_⟩
  · have v8 := rnl_8 _ hv
    have bI := (iI v).mp hv
    have nb := (sB_0 p9).2.2 v (by omega) bI
    rw [e00]
    refine ⟨?_, fun q => nb (nS_told h (by omega) f0 (by omega) q)⟩
    refine (Lv_told h (by omega) ?_).2.2
    unfold sI at bI
    rw [bt_msk (by omega)] at bI
    rcases bI with z | ⟨q, q4, _, _, ql, qm⟩
    · exact Lv_whole hw h2 h.hlP p1 z
    · exact Lv_backP hw h2 h.hlP p1 q4 qm ql
  · rw [iO]
    unfold sO
    rw [bt_msk hv]
    obtain ⟨k, k0, k1, k2⟩ := ha
    rw [cf.2.2.1] at k1
    obtain ⟨q, q4, qx, ql⟩ := hl
    obtain ⟨u4, u5, u6, u7, u10, u11, u20, u22, u21, u12⟩ := cf.2.2.2.2.2.2.2 (k - tk R f) (by omega) (by omega)
    refine ⟨⟨f + (k - tk R f), by omega, by omega, by rw [u22, show tk R f + (k - tk R f) = k by omega]; exact k2⟩, q, q4, (cf_xE h cf q4).mpr qx, ?_⟩
    -- live at the exit
    have ncl : clR R (tk R e) = -1 := Classical.byContradiction fun w => p2 e f1 (by omega) ((h.cl7 (k := e) (by omega) f2).1.mpr w)
    have l := lr_tg h (tl_self h (k := e) (by omega) f2 ncl) q4
    unfold sL at ql ⊢
    rw [e00] at ql
    rcases l with z | z
    · omega
    · rw [z.2.2] at ql
      exact ⟨z.1, (Lv_iffT h hv z.1 z.2.1).mpr ql.2⟩
  · rw [iI]
    unfold sI
    rw [bt_msk hv]
    refine Or.inl ?_
    have E := cf_ES h cf
    obtain ⟨c1, c2, c3, c4, c5, c6, c7, c8⟩ := cf
    rw [c3] at hl
    have := iso_Lv (ES := Eq) c6 c5 c7.symm rfl (fun x x0 x1 => ⟨(E x x0 x1).1.symm, fun q hq w => ((E x x0 x1).2 q hq (by rw [(E x x0 x1).1]; exact w)).symm⟩) (v := v) (w := v) (fun S S' e q => by rw [← e]; exact q) (fun x x0 x1 q => by rw [(c8 x x0 x1).2.2.2.2.1]; exact q) (k := tk R f) (by rw [show tk R f + (ly R rho 3 e - f) - 1 = tk R f + (ly R rho 3 e - f) - 1 by rfl]; exact hl)
    rw [show tk R f - tk R f + f = f by omega, show f + (ly R rho 3 e - f) - 1 = ly R rho 3 e - 1 by omega] at this
    exact this
theorem Lft.good (h : Good R rho) (hX : Lft R rho R2 rho2 i j fs es) : Good R2 rho2 := by
  have hc := hX.cut
  have mt := hX.meth h
  obtain ⟨x1, x2, x3, x4, nm, x6, x7, x8, x9, hs, hn, hb⟩ := hX
  obtain ⟨n1, n2, n3, n4, n5, n6⟩ := nm
  obtain ⟨t1, t2, t3, t4, t5, t6⟩ := mt
  have hG := h
  obtain ⟨g1, g2, g3, g4, g5, g6⟩ := h
  have hw := hG.wf
  have cf := hG.cf hs hn
  obtain ⟨o8, l1, l2, m1, m2⟩ := lists_sp hG hs hn hb
  have e00 : tp (cutR R) 0 0 = cutR R 0 := rfl
  -- a new call
  have newc : ∀ c, R 789 ≤ c → c < R2 789 → CGc R2 rho2 c := by
    intro c c0 c1
    obtain ⟨a1, a2, a3, a4, a5, a6⟩ := x8 c c0 c1
    have ok := NSp.ok hG hs hn hb a6
    obtain ⟨p1, p2, p3, p4, p5, p6, p7, p8, p9, p10⟩ := a6
    have cff := hG.cf p1 p2
    have ea : ca R2 c = tk R (fs c) := a1
    have ez : cz R2 c = tk R (es c) := a2
    have em : cm R2 c = R 761 := a3
    unfold CGc
    rw [em, ea, ez, hc, t1, t2, t5, t6, n3]
    have esz : tp (cutR R) 3 (tk R (es c)) - tk R (fs c) = ly R rho 3 j - i := by rw [cff.2.2.1]; omega
    have esj : tp (cutR R) 3 (tk R j) - tk R i = ly R rho 3 j - i := by rw [cf.2.2.1]; omega
    have oct := ocf_told cf g1
    refine ⟨cff.2.1, by omega, by omega, fun x x0 x1 => p4 x x0 (by omega), ?_, a4, a5, p10, ?_, fun e he hq => ?_, ok⟩
    · rw [← oct]; exact p5
    · -- the weight is that of the first span
      have ri := cf.2.2.2.2.2.1
      have rf := cff.2.2.2.2.2.1
      have r4 := ri.2.2.2.1
      have r4f := rf.2.2.2.1
      rw [e00] at r4 r4f
      have wi := wt_bound (P := tp (cutR R)) (I := sI (ly R rho) i j) (O := sO (ly R rho) i j) (k := tk R i) (n := ly R rho 3 j - i) ri.2.1 ri.2.2.1 (fun y y0 y1 => (g1.2.2.2 y (by have := ri.2.1; omega) (by omega)).2.2.1.1) (fun v hv => ?_) (by
        have := ocf_8 g1 cf.2.1
        unfold ocf at this
        rw [esj] at this; exact this)
      · have eo : ocs (tp (cutR R)) (ly R rho 3 j - i).toNat (tk R i) = ocf (ly R rho) i j := by rw [oct]; unfold ocf; rw [esj]
        rw [eo] at wi
        -- both spans weigh the same
        have same : ∀ n : Nat, (n : Int) ≤ ly R rho 3 j - i → wt (tp (cutR R)) ((tk R (fs c)).toNat + n) - wt (tp (cutR R)) (tk R (fs c)).toNat = wt (tp (cutR R)) ((tk R i).toNat + n) - wt (tp (cutR R)) (tk R i).toNat := by
          intro n
          induction n with
          | zero => intro _; rw [Nat.add_zero, Nat.add_zero]; omega
          | succ n ih =>
            intro hn'
            have q := ih (by omega)
            obtain ⟨w1, w2, w3, w4, w5, w6, w7⟩ := p4 n (by omega) (by omega)
            have s1 := wt_step (T := tp (cutR R)) (n := tk R (fs c) + n) (by have := rf.2.1; omega)
            have s2 := wt_step (T := tp (cutR R)) (n := tk R i + n) (by have := ri.2.1; omega)
            have f0 := rf.2.1
            have i0 := ri.2.1
            rw [show (tk R (fs c) + (n : Int) + 1).toNat = (tk R (fs c)).toNat + (n + 1) by omega, show (tk R (fs c) + (n : Int)).toNat = (tk R (fs c)).toNat + n by omega, w1, w5] at s1
            rw [show (tk R i + (n : Int) + 1).toNat = (tk R i).toNat + (n + 1) by omega, show (tk R i + (n : Int)).toNat = (tk R i).toNat + n by omega] at s2
            omega
        have q := same (ly R rho 3 j - i).toNat (by have := ri.2.2.1; omega)
        have f0 := rf.2.1
        have i0 := ri.2.1
        have sz0 := ri.2.2.1
        rw [show (tk R (fs c)).toNat + (ly R rho 3 j - i).toNat = (tp (cutR R) 3 (tk R (es c))).toNat by omega, show (tk R i).toNat + (ly R rho 3 j - i).toNat = (tk R i + (ly R rho 3 j - i)).toNat by omega] at q
        omega
      · have v8 : v < 8 := by
          refine Nat.not_le.mp fun q => ?_
          rw [bt8 m8_sO q] at hv; cases hv
        unfold sO at hv
        rw [bt_msk v8] at hv
        obtain ⟨⟨k, k0, k1, k2⟩, -⟩ := hv
        obtain ⟨u4, u5, u6, u7, u10, u11, u20, u22, u21, u12⟩ := cf.2.2.2.2.2.2.2 (k - i) (by omega) (by omega)
        rw [show i + (k - i) = k by omega] at u22
        rw [u22] at k2
        have e22 : tp (cutR R) 22 (tk R i + (k - i)) = if cutR R (1 + (tk R i + (k - i))) = 0 then ishl 1 (cutR R (201 + (tk R i + (k - i)))) else 0 := rfl
        rw [e22] at k2
        by_cases z : cutR R (1 + (tk R i + (k - i))) = 0
        · have t := (g1.2.2.2 (tk R i + (k - i)) (by have := ri.2.1; omega) (by omega)).2.1 z
          rw [if_pos z, bt_shl t, decide_eq_true_iff] at k2
          exact ⟨tk R i + (k - i), by omega, by omega, z, k2.symm⟩
        · rw [if_neg z, bt_0] at k2; cases k2
    · rw [← p8, iand_sX (by omega)] at hq
      have la_ := xE_la hw hG.hlP p1 he hq
      have ll := lr_la hG p1.1 (show fs c < ly R rho 0 0 by have := p1.2.1; have := p1.2.2.1; omega)
      rcases ll with z | z
      · exact (la_ z.2).elim
      · have : tp (cutR R) 2 (tk R (fs c)) = cutR R (81 + tk R (fs c)) := rfl
        rw [this] at z
        omega
  refine ⟨by rw [hc]; exact g1, by omega, fun k k0 k1 => ?_, by omega, fun c c0 c1 => ?_, fun c d c0 c1 d0 d1 hcd => ?_⟩
  · by_cases ek : k = R 761
    · subst ek
      unfold MGm
      rw [t1, t2, t5, t6, hc, n3]
      refine ⟨cf.2.1, ?_, ⟨n4, l1⟩, ⟨n5, l2⟩, fun e he => ?_⟩
      · unfold sX
        rw [bi_congr (cf_xE hG cf (Or.inl rfl)), bi_congr (cf_xE hG cf (Or.inr (Or.inl rfl))), bi_congr (cf_xE hG cf (Or.inr (Or.inr (Or.inl rfl)))), bi_congr (cf_xE hG cf (Or.inr (Or.inr (Or.inr rfl))))]
      · rw [n6 e he]
        by_cases q : xE (ly R rho) i (ly R rho 3 j - 1) e
        · rw [cif1 q, cif1 ((cf_xE hG cf he).mp q)]
          refine m8_ext (m8_msk _) (m8_msk _) (fun v hv => bt_iffT ?_)
          rw [bt_msk hv, bt_msk hv, cf_mU hG cf he]
        · rw [cif0 q, cif0 (fun w => q ((cf_xE hG cf he).mpr w))]
    · obtain ⟨a1, a2, a3, a4, a5, a6⟩ := x4 k k0 (by omega)
      obtain ⟨q1, q2, q3, q4, q5⟩ := g3 k k0 (by omega)
      have b1 : mf0 R2 k = mf0 R k := a1
      have b2 : ml0 R2 k = ml0 R k := a2
      have b3 : iM R2 k = iM R k := congrArg lset a4
      have b4 : oM R2 k = oM R k := congrArg lset a5
      unfold MGm LIn LOt
      rw [b1, b2, b3, b4, hc, a3, a4, a5]
      refine ⟨q1, q2, q3, q4, fun e he => ?_⟩
      rw [a6 _ sp_bd.1 sp_bd.2]; exact q5 e he
  · by_cases ec : c < R 789
    · obtain ⟨r0, a1, a2, a3, a4, a5⟩ := x7 c c0 ec
      have G := g5 c c0 ec
      have om := G.2.1
      have ecm : cm R2 c = cm R c := a3
      obtain ⟨b1, b2, b3, b4, b5, b6⟩ := x4 (cm R c) om.1 om.2
      have d1 : mf0 R2 (cm R c) = mf0 R (cm R c) := b1
      have d2 : ml0 R2 (cm R c) = ml0 R (cm R c) := b2
      have d3 : iM R2 (cm R c) = iM R (cm R c) := congrArg lset b4
      have d4 : oM R2 (cm R c) = oM R (cm R c) := congrArg lset b5
      have ea : ca R2 c = ca R c := a1
      have ez : cz R2 c = cz R c := a2
      unfold CGc LIn LOt
      rw [ecm, d1, d2, d3, d4, hc, ea, ez, r0, a4, a5, b3]
      obtain ⟨q1, q2, q3⟩ := G
      exact ⟨q1, by omega, q3⟩
    · exact newc c (by omega) c1
  · -- nothing in common
    have told : ∀ a b, 0 ≤ a → a ≤ b → b ≤ ly R rho 0 0 → tk R a ≤ tk R b := fun a b a0 ab b1 => by
      by_cases e : a = b
      · rw [e]; exact Int.le_refl _
      · have := hG.lt a0 (show a < b by omega) b1; omega
    have mixed : ∀ c d, 0 ≤ c → c < R 789 → R 789 ≤ d → d < R2 789 → tp (cutR R2) 3 (cz R2 c) ≤ ca R2 d ∨ tp (cutR R2) 3 (cz R2 d) ≤ ca R2 c := by
      intro c d c0 c1 d0 d1
      obtain ⟨r0, a1, a2, a3, a4, a5⟩ := x7 c c0 c1
      obtain ⟨b1, b2, b3, b4, b5, b6⟩ := x8 d d0 d1
      obtain ⟨p1, p2, p3, -⟩ := b6
      have cff := hG.cf p1 p2
      have ea : ca R2 c = ca R c := a1
      have ez : cz R2 c = cz R c := a2
      have da : ca R2 d = tk R (fs d) := b1
      have dz : cz R2 d = tk R (es d) := b2
      rw [hc, ea, ez, da, dz, cff.2.2.1]
      have cn := hG.cn ⟨c0, c1⟩
      have of := hG.of (t := ca R c) cn.2.2.1 (by omega) cn.1
      have lt := of.2.2.2 cn.2.2.2
      have k7 : ly R rho 1 (ixn (clR R) (eR R) (ca R c).toNat) = 7 := (hG.cl7 of.1 lt).1.mpr (by rw [of.2.2.1, cn.2.1]; omega)
      obtain ⟨q1, q2, q3, q4, q5, -⟩ := hG.cnode of.1 lt k7
      rw [of.2.2.1, cn.2.1] at q5
      rw [q5]
      by_cases z : ixn (clR R) (eR R) (ca R c).toNat < fs d
      · exact Or.inl (told _ _ (by omega) (by omega) (by have := p1.2.1; have := p1.2.2.1; omega))
      · refine Or.inr ?_
        have ge : ly R rho 3 (es d) ≤ ixn (clR R) (eR R) (ca R c).toNat := by
          refine Int.not_lt.mp fun w => p2 _ (by omega) w k7
        have ae := hw.af (k := es d) (by have := p1.1; have := p1.2.1; omega) p1.2.2.1
        have := told _ _ (by have := p1.1; have := p1.2.1; omega) ge of.2.1
        rw [of.2.2.1] at this
        have w := cff.1 (ly R rho 3 (es d) - fs d) (by have := p1.2.1; omega) (by omega)
        rw [show fs d + (ly R rho 3 (es d) - fs d) = ly R rho 3 (es d) by omega] at w
        omega
    by_cases ec : c < R 789
    · by_cases ed : d < R 789
      · obtain ⟨r0, a1, a2, a3, a4, a5⟩ := x7 c c0 ec
        obtain ⟨r0', b1, b2, b3, b4, b5⟩ := x7 d d0 ed
        have := g6 c d c0 ec d0 ed hcd
        unfold cz ca at this ⊢
        rw [hc, a1, a2, b1, b2]; exact this
      · exact mixed c d c0 ec (by omega) d1
    · by_cases ed : d < R 789
      · exact (mixed d c d0 ed (by omega) c1).symm
      · obtain ⟨a1, a2, a3, a4, a5, a6⟩ := x8 c (by omega) c1
        obtain ⟨b1, b2, b3, b4, b5, b6⟩ := x8 d (by omega) d1
        obtain ⟨p1, p2, -⟩ := a6
        obtain ⟨q1, q2, -⟩ := b6
        have cfc := hG.cf p1 p2
        have cfd := hG.cf q1 q2
        have ea : ca R2 c = tk R (fs c) := a1
        have ez : cz R2 c = tk R (es c) := a2
        have da : ca R2 d = tk R (fs d) := b1
        have dz : cz R2 d = tk R (es d) := b2
        rw [hc, ea, ez, da, dz, cfc.2.2.1, cfd.2.2.1]
        have ac := hw.af (k := es c) (by have := p1.1; have := p1.2.1; omega) p1.2.2.1
        have ad := hw.af (k := es d) (by have := q1.1; have := q1.2.1; omega) q1.2.2.1
        have wc := cfc.1 (ly R rho 3 (es c) - fs c) (by have := p1.2.1; omega) (by omega)
        rw [show fs c + (ly R rho 3 (es c) - fs c) = ly R rho 3 (es c) by omega] at wc
        have wd := cfd.1 (ly R rho 3 (es d) - fs d) (by have := q1.2.1; omega) (by omega)
        rw [show fs d + (ly R rho 3 (es d) - fs d) = ly R rho 3 (es d) by omega] at wd
        rcases x9 c d (by omega) c1 (by omega) d1 hcd with z | z
        · exact Or.inl (by rw [← wc]; exact told _ _ (by have := p1.1; have := p1.2.1; omega) z (by have := q1.2.1; have := q1.2.2.1; omega))
        · exact Or.inr (by rw [← wd]; exact told _ _ (by have := q1.1; have := q1.2.1; omega) z (by have := p1.2.1; have := p1.2.2.1; omega))
end L
