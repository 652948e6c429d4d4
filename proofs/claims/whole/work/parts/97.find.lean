/-! The class: find, alike -/
theorem cand_none {P : Pg} {i j f : Int} (h : ∀ to, nms P i f (P 3 j - i).toNat 0 (fun _ => -1) = some to → ¬ Cnd P i j f to) : cand P i j f = none := by
  unfold cand
  cases e : nms P i f (P 3 j - i).toNat 0 (fun _ => -1) with
  | none => rfl
  | some to =>
    show @ite _ (Cnd P i j f to) (Classical.propDecidable _) (some to) none = none
    rw [if_neg (h to e)]
theorem cand_some {P : Pg} {i j f : Int} {to : Int → Int} (h1 : nms P i f (P 3 j - i).toNat 0 (fun _ => -1) = some to) (h2 : Cnd P i j f to) : cand P i j f = some to := by
  unfold cand
  rw [h1]
  show @ite _ (Cnd P i j f to) (Classical.propDecidable _) (some to) none = some to
  rw [if_pos h2]
theorem cand_inv {P : Pg} {i j f : Int} {to : Int → Int} (h : cand P i j f = some to) : nms P i f (P 3 j - i).toNat 0 (fun _ => -1) = some to ∧ Cnd P i j f to := by
  unfold cand at h
  cases e : nms P i f (P 3 j - i).toNat 0 (fun _ => -1) with
  | none => rw [e] at h; cases h
  | some to1 =>
    rw [e] at h
    have h : @ite _ (Cnd P i j f to1) (Classical.propDecidable _) (some to1) none = some to := h
    by_cases c : Cnd P i j f to1
    · rw [if_pos c] at h; injection h with h; subst h; exact ⟨rfl, c⟩
    · rw [if_neg c] at h; cases h
section F
variable {P : Pg} {i j : Int}
theorem isp_self {f : Int} (hf : 0 ≤ f ∧ f < P 0 0) : isp P f f := ⟨hf.1, Int.le_refl _, hf.2, rfl, rfl⟩
theorem cand_isp (hw : WF P) {f : Int} (hf : 0 ≤ f ∧ f < P 0 0) {to : Int → Int} (h : Cnd P i j f to) : isp P f (lsf P i j f) ∧ f + (P 3 j - i) ≤ P 0 0 := by
  have a : isp P f (lsf P i j f) := lst_isp hw (cnB P j 40 i) f (isp_self hf) h.1
  have b := hw.af (k := lsf P i j f) (by have := a.1; have := a.2.1; omega) a.2.2.1
  have := h.2.1
  exact ⟨a, by omega⟩
theorem tks_nil (hw : WF P) : ∀ (m : Nat) (f fr : Int), f + m = P 0 0 → 0 ≤ f → P 0 0 < f + (P 3 j - i) → tks P i j m f fr = [] := by
  intro m
  induction m with
  | zero => intro f fr _ _ _; rfl
  | succ m ih =>
    intro f fr hf f0 hs
    rw [tks]
    have n : cand P i j f = none := cand_none (fun to _ hc => by have := (cand_isp hw ⟨f0, by omega⟩ hc).2; omega)
    rw [n]
    split
    · exact ih (f + 1) fr (by omega) (by omega) (by omega)
    · exact ih (f + 1) fr (by omega) (by omega) (by omega)
theorem tks_skip {m : Nat} {f fr : Int} (h : f < fr ∨ cand P i j f = none) : tks P i j (m + 1) f fr = tks P i j m (f + 1) fr := by
  rw [tks]
  by_cases c : f < fr
  · rw [if_pos c]
  · rw [if_neg c]
    rcases h with h | h
    · exact (c h).elim
    · rw [h]
theorem tks_take {m : Nat} {f fr : Int} {to : Int → Int} (h : ¬ f < fr) (h2 : cand P i j f = some to) : tks P i j (m + 1) f fr = (f, to) :: tks P i j m (f + 1) (f + (P 3 j - i)) := by
  rw [tks, if_neg h, h2]
theorem tks_len : ∀ (m : Nat) (f fr : Int), (tks P i j m f fr).length ≤ m := by
  intro m
  induction m with
  | zero => intro f fr; exact Nat.le_refl _
  | succ m ih =>
    intro f fr
    by_cases c : f < fr ∨ cand P i j f = none
    · rw [tks_skip c]; have := ih (f + 1) fr; omega
    · cases e : cand P i j f with
      | none => exact (c (Or.inr e)).elim
      | some to =>
        rw [tks_take (fun z => c (Or.inl z)) e, List.length_cons]
        have := ih (f + 1) (f + (P 3 j - i)); omega
/-- what is taken -/
theorem tks_mem : ∀ (m : Nat) (f fr : Int) (q : Int × (Int → Int)), q ∈ tks P i j m f fr → f ≤ q.1 ∧ q.1 < f + m ∧ fr ≤ q.1 ∧ cand P i j q.1 = some q.2 := by
  intro m
  induction m with
  | zero => intro f fr q h; cases h
  | succ m ih =>
    intro f fr q h
    by_cases c : f < fr ∨ cand P i j f = none
    · rw [tks_skip c] at h
      have := ih (f + 1) fr q h
      exact ⟨by omega, by omega, this.2.2⟩
    · cases e : cand P i j f with
      | none => exact (c (Or.inr e)).elim
      | some to =>
        have nf : ¬ f < fr := fun z => c (Or.inl z)
        rw [tks_take nf e] at h
        rcases List.mem_cons.mp h with h | h
        · subst h; exact ⟨Int.le_refl _, by show f < f + ((m + 1 : Nat) : Int); omega, by show fr ≤ f; omega, e⟩
        · have := ih (f + 1) _ q h
          exact ⟨by omega, by omega, by omega, this.2.2.2⟩
end F
/-- the class's list -/
def TwL (N : sl_M) (L : List (Int × (Int → Int))) : Prop := N 8 0 5 = L.length ∧ ∀ (a : Nat) (q : Int × (Int → Int)), L[a]? = some q → N 8 4 a = q.1 ∧ N 8 5 a = pkn q.2
def FF (M N : sl_M) : Prop := ∀ o i j, ¬ (o = 8 ∨ o = 9 ∨ (o = 6 ∧ (i = 5 ∨ i = 6))) → N o i j = M o i j
section K
variable {l : Launch} {M : sl_M} {Q : sl_R} {P : Pg} {s : Nat}
theorem CdS.n8 {c : Nat} (h : CdS M c P) {k : Int} (hk : 0 ≤ k ∧ k < P 0 0) : 0 ≤ P 11 k ∧ N8 P k := by
  obtain ⟨a, b, _, _, e, _⟩ := h k hk.1 hk.2
  exact ⟨b.1, fun z => (e z).2⟩
/-- the variables that are replaced are those that occur -/
theorem mtc_dom {c : Nat} (hS : CdS M c P) {i j f : Int} (hw : WF P) (hs : isp P i j) (hf : 0 ≤ f) (hfn : f + (P 3 j - i) ≤ P 0 0) {to : Int → Int} (h : mtc P i j f to) : Inj to ∧ (∀ v, 0 ≤ v → v < 8 → (to v ≠ -1 ↔ v ∈ ocf P i j)) := by
  have aj := hw.af (k := j) (by have := hs.1; have := hs.2.1; omega) hs.2.2.1
  have s1 := hs.1
  have sp := nms_spec (P := P) (i := i) (f := f) (P 3 j - i).toNat 0 (fun _ => -1) to (fun y y0 y1 => ⟨(hS.n8 (k := i + y) (by omega)).1, (hS.n8 (k := i + y) (by omega)).2, (hS.n8 (k := f + y) (by omega)).2, (h.1 y y0 (by omega)).2.1⟩) Inj.none h.2
  refine ⟨sp.1, fun v v0 v1 => ?_⟩
  rw [sp.2.2.1 v v0 v1, Int.add_zero]
  constructor
  · rintro (z | z)
    · exact (z rfl).elim
    · exact z
  · exact fun z => Or.inr z
theorem kX8_find (hw : WF P) (h2 : WF2 P) (hF : StF M s P) (hd : Sd M s P) (hS : CdS M (s + 10) P) {i j : Int} (hs : isp P i j) (hp : SpM M 7 P i j) (hQ : ∀ N, FF M N → Sd N s P → TwL N (tka P i j) → (tka P i j ≠ [] → ∀ v : Nat, v < 8 → (bt (N 8 0 6) v = true ↔ (v : Int) ∈ ocf P i j)) → Q none N) : sl_Runs l mX8_find [vR 8 0, vR 7 0, vR 6 0] M Q := by
  have hs7 := hF.1
  have sr := cls7 hs7
  have hc : sl_cls (s + 10) = 0 := (cls_r hs7 (m := 0) (by omega)).2.2
  have n0 := hw.n0
  have hs' := hs
  obtain ⟨s1, s2, s3, s4, s5⟩ := hs
  have aj := hw.af (k := j) (by omega) s3
  obtain ⟨p0, p1, p2, p3, p4, p5, p6, p7⟩ := hp
  have loop : ∀ (m : Nat) (f fr : Int) (N : sl_M) (L : List (Int × (Int → Int))), f + m = P 0 0 → 0 ≤ f → sl_rg fr → FF M N → Sd N s P → TwL N L → (L.length : Int) ≤ f → (L ≠ [] → ∀ v : Nat, v < 8 → (bt (N 8 0 6) v = true ↔ (v : Int) ∈ ocf P i j)) → tka P i j = L ++ tks P i j m f fr → sl_At l mX8_find 36 [(0, vR 8 0), (1, vR 7 0), (2, vR 6 0), (3, vR (s + 10) 0), (4, vI (1 + (cnB P j 40 i : Int))), (5, vI (P 3 j - i)), (6, vI fr), (7, vI f)] [] N Q := by
    intro m
    induction m with
    | zero =>
      intro f fr N L hf f0 hfr hN hdN hL hlf hcN he
      refine vX8_find_36 rfl hc fun _ _ _ _ _ => ?_
      rw [hN (s + 10) 0 11 (by omega), hF.2.1.1]
      refine ⟨by omega, fun _ => ?_, fun z => by omega⟩
      have e : tka P i j = L := by rw [he]; show L ++ [] = L; exact List.append_nil _
      rw [← e] at hL hcN
      exact hQ N hN hdN hL hcN
    | succ m ih =>
      intro f fr N L hf f0 hfr hN hdN hL hlf hcN he
      have fo : ∀ a b, N (s + 10) a b = M (s + 10) a b := fun a b => hN _ a b (by omega)
      have hCN := hF.2.1.frame fo
      have hSN := hS.frame fo
      have f7 : ∀ a b, N 7 a b = M 7 a b := fun a b => hN 7 a b (by omega)
      have hFN : StF N s P := hF.frame hw (fun o a b ho => hN o a b (by unfold StO at ho; omega))
      refine vX8_find_36 rfl hc fun _ _ _ _ _ => ?_
      rw [fo 0 11, hF.2.1.1, f7 0 2, p2, f7 0 0, p0]
      refine ⟨by omega, fun z => ?_, fun z y ey => ?_⟩
      · have e : tka P i j = L := by rw [he, tks_nil hw (m + 1) f fr (by omega) f0 (by omega), List.append_nil]
        rw [← e] at hL hcN
        exact hQ N hN hdN hL hcN
      · -- on to the next
        have skip : ∀ N', (f < fr ∨ cand P i j f = none) → FF M N' → Sd N' s P → TwL N' L → (L ≠ [] → ∀ v : Nat, v < 8 → (bt (N' 8 0 6) v = true ↔ (v : Int) ∈ ocf P i j)) → sl_At l mX8_find 36 [(0, vR 8 0), (1, vR 7 0), (2, vR 6 0), (3, vR (s + 10) 0), (4, vI (1 + (cnB P j 40 i : Int))), (5, vI (P 3 j - i)), (6, vI fr), (7, vI (f + 1))] [] N' Q := by
          intro N' h1 h2 h3 h4 h5
          exact ih (f + 1) fr N' L (by omega) (by omega) hfr h2 h3 h4 (by omega) h5 (by rw [he, tks_skip h1])
        have no : (f < fr ∨ cand P i j f = none) → sl_At l mX8_find 100 [(0, vR 8 0), (1, vR 7 0), (2, vR 6 0), (3, vR (s + 10) 0), (4, vI (1 + (cnB P j 40 i : Int))), (5, vI (P 3 j - i)), (6, vI fr), (7, vI f)] [vI (-1)] N Q := fun h1 => vX8_find_100 rfl hc (by omega) fun _ _ _ _ _ => ⟨fun _ => ⟨by omega, skip N h1 hN hdN hL hcN⟩, fun z => by omega⟩
        refine ⟨fun w => no (Or.inr (cand_none (fun to _ hcn => ?_))), fun w => ⟨fun w2 => no (Or.inl w2), fun w2 => ?_⟩⟩
        · have a := hcn.2.1
          have b := hcn.2.2.1
          exact w (by omega)
        · refine kX8_lastOf hc hw hCN ⟨f0, by omega⟩ ?_ ⟨_, rfl, ?_⟩
          · have : ∀ (n : Nat) (k : Int), cnB P j n k ≤ n := by
              intro n
              induction n with
              | zero => intro k; exact Nat.le_refl _
              | succ n ih => intro k; rw [cnB]; split; have := ih (P 3 k); omega; omega
            have := this 40 i
            omega
          · have lr : lsf P i j f = -1 ∨ isp P f (lsf P i j f) := by
              by_cases q : lsf P i j f = -1
              · exact Or.inl q
              · exact Or.inr (lst_isp hw _ f (isp_self ⟨f0, by omega⟩) q)
            show sl_At l mX8_find 100 [(0, vR 8 0), (1, vR 7 0), (2, vR 6 0), (3, vR (s + 10) 0), (4, vI (1 + (cnB P j 40 i : Int))), (5, vI (P 3 j - i)), (6, vI fr), (7, vI f)] [vI (lsf P i j f)] N Q
            rcases lr with lr | lr
            · rw [lr]; exact no (Or.inr (cand_none (fun to _ hcn => hcn.1 lr)))
            · obtain ⟨l1, l2, l3, l4, l5⟩ := lr
              have al := hw.af (k := lsf P i j f) (by omega) l3
              refine vX8_find_100 rfl hc (by omega) fun _ _ _ _ _ => ⟨fun q => by omega, fun _ => ?_⟩
              have e3 : N (s + 10) 3 (lsf P i j f) = P 3 (lsf P i j f) - lsf P i j f - 1 := by
                have := (hCN.2 (lsf P i j f) (by omega) l3).2.2.1; omega
              rw [e3]
              refine ⟨by omega, by omega, by omega, fun q => ⟨by omega, skip N (Or.inr (cand_none (fun to _ hcn => ?_))) hN hdN hL hcN⟩, fun q => ?_⟩
              · have := hcn.2.1; omega
              · have esz : P 3 (lsf P i j f) - f = P 3 j - i := by omega
                refine kX8_matches hc hw hCN hSN hs' f0 (by omega) (by rw [f7, p0]) (by rw [f7, p2]) (fun to N1 hm hT hF1 => ⟨_, rfl, fun _ => ?_, fun w => by omega⟩) (fun hm N1 hF1 => ⟨_, rfl, fun w => by omega, fun _ => ⟨by omega, ?_⟩⟩)
                · -- it matches
                  have d1 := mtc_dom hSN hw hs' f0 (by omega) hm
                  have hF1' : StF N1 s P := hFN.frame hw (fun o a b ho => hF1 o a b (by unfold StO at ho; omega))
                  have hd1 : Sd N1 s P := by
                    have e00 : N1 6 0 0 = N 6 0 0 := hF1 6 0 0 (by omega)
                    have e3' : N1 6 3 = N 6 3 := by funext b; exact hF1 6 3 b (by omega)
                    have e4' : N1 6 4 = N 6 4 := by funext b; exact hF1 6 4 b (by omega)
                    unfold Sd
                    rw [e00, e3', e4']; exact hdN
                  refine kX1_examine hw hF1' hd1 (o := 9) (Or.inr rfl) ⟨l1, l2, l3, l4, l5⟩ (fun N2 hsp hd2 hF2 => ⟨rfl, ?_⟩)
                  have t2 : Tw N2 to := ⟨hT.1, fun v v0 v1 => by rw [hF2 8 2 v (by omega) (by omega)]; exact hT.2.1 v v0 v1, fun v hv => by rw [hF2 8 0 2 (by omega) (by omega)]; exact hT.2.2 v hv⟩
                  refine kX8_packed t2 (fun N3 hF3 hb3 => ⟨_, rfl, ?_⟩)
                  have g7 : ∀ a b, N3 7 a b = M 7 a b := fun a b => by rw [hF3 7 a b (by omega), hF2 7 a b (by omega) (by omega), hF1 7 a b (by omega), f7]
                  have g9 : ∀ a b, N3 9 a b = N2 9 a b := fun a b => hF3 9 a b (by omega)
                  obtain ⟨q0, q1, q2, q3, q4, q5, q6, q7⟩ := hsp
                  have FF3 : FF M N3 := fun o a b zz => by rw [hF3 o a b (by omega), hF2 o a b (by omega) (by omega), hF1 o a b (by omega)]; exact hN o a b zz
                  have hd3 : Sd N3 s P := by
                    have e00 : N3 6 0 0 = N2 6 0 0 := hF3 6 0 0 (by omega)
                    have e3' : N3 6 3 = N2 6 3 := by funext b; exact hF3 6 3 b (by omega)
                    have e4' : N3 6 4 = N2 6 4 := by funext b; exact hF3 6 4 b (by omega)
                    unfold Sd
                    rw [e00, e3', e4']; exact hd2
                  have TL3 : TwL N3 L := by
                    refine ⟨by rw [hF3 8 0 5 (by omega), hF2 8 0 5 (by omega) (by omega), hF1 8 0 5 (by omega)]; exact hL.1, fun a q' hq => ?_⟩
                    rw [hF3 8 4 a (by omega), hF2 8 4 a (by omega) (by omega), hF1 8 4 a (by omega), hF3 8 5 a (by omega), hF2 8 5 a (by omega) (by omega), hF1 8 5 a (by omega)]
                    exact hL.2 a q' hq
                  have CB3 : ∀ v : Nat, v < 8 → (bt (N3 8 0 6) v = true ↔ (v : Int) ∈ ocf P i j) := fun v hv => (hb3 v hv).trans (d1.2 v (by omega) (by omega))
                  refine kX8_agrees ⟨_, rfl, ?_⟩
                  rw [g9 0 6, g9 0 3, g9 0 4, g9 0 5, g7 0 3, g7 0 4, g7 0 5, q6, q3, q4, q5, p3, p4, p5]
                  refine ⟨fun w => ⟨by omega, ?_⟩, fun w => ?_⟩
                  · rw [b_eq0] at w
                    refine skip N3 (Or.inr (cand_none (fun to' e hcn => ?_))) FF3 hd3 TL3 (fun _ => CB3)
                    rw [hm.2] at e
                    injection e with e
                    subst e
                    exact w ⟨hcn.2.2.2.2.1, hcn.2.2.2.2.2.1, hcn.2.2.2.2.2.2.1, hcn.2.2.2.2.2.2.2⟩
                  · have w := b_ne0.mp w
                    have cnd : Cnd P i j f to := ⟨by omega, esz, by omega, hm.1, w.1, w.2.1, w.2.2.1, w.2.2.2⟩
                    have cs := cand_some hm.2 cnd
                    have l5' := TL3.1
                    refine kX8_take (by omega) (fun N4 hF4 k4 k5 k6 => ⟨rfl, by omega, fun y2 ey2 => ⟨by omega, ?_⟩⟩)
                    have ey2 : y2 = f + (P 3 j - i) := by omega
                    subst ey2
                    refine ih (f + 1) (f + (P 3 j - i)) N4 (L ++ [(f, to)]) (by omega) (by omega) (by omega) (fun o a b zz => by rw [hF4 o a b (by omega)]; exact FF3 o a b zz) ?_ ⟨by rw [k6, l5']; simp, fun a q' hq => ?_⟩ (by simp; omega) (fun _ v hv => by rw [hF4 8 0 6 (by omega)]; exact CB3 v hv) (by rw [he, tks_take w2 cs, List.append_assoc]; rfl)
                    · have e00 : N4 6 0 0 = N3 6 0 0 := hF4 6 0 0 (by omega)
                      have e3' : N4 6 3 = N3 6 3 := by funext b; exact hF4 6 3 b (by omega)
                      have e4' : N4 6 4 = N3 6 4 := by funext b; exact hF4 6 4 b (by omega)
                      unfold Sd
                      rw [e00, e3', e4']; exact hd3
                    · by_cases ha : a < L.length
                      · rw [List.getElem?_append_left ha] at hq
                        rw [hF4 8 4 a (by omega), hF4 8 5 a (by omega)]
                        exact TL3.2 a q' hq
                      · rw [List.getElem?_append_right (by omega)] at hq
                        have ea : a = L.length := by
                          refine Nat.le_antisymm ?_ (by omega)
                          refine Nat.not_lt.mp fun q => ?_
                          rw [List.getElem?_eq_none (by simp; omega)] at hq
                          cases hq
                        rw [ea, Nat.sub_self] at hq
                        injection hq with hq
                        subst hq
                        rw [ea, ← l5']
                        exact ⟨k4, k5⟩
                · refine skip N1 (Or.inr (cand_none (fun to' e hcn => hm to' ⟨hcn.2.2.2.1, e⟩))) (fun o a b zz => by rw [hF1 o a b (by omega)]; exact hN o a b zz) ?_ ?_ (fun hne v hv => by rw [hF1 8 0 6 (by omega)]; exact hcN hne v hv)
                  · have e00 : N1 6 0 0 = N 6 0 0 := hF1 6 0 0 (by omega)
                    have e3' : N1 6 3 = N 6 3 := by funext b; exact hF1 6 3 b (by omega)
                    have e4' : N1 6 4 = N 6 4 := by funext b; exact hF1 6 4 b (by omega)
                    unfold Sd
                    rw [e00, e3', e4']; exact hdN
                  · refine ⟨by rw [hF1 8 0 5 (by omega)]; exact hL.1, fun a q' hq => ?_⟩
                    rw [hF1 8 4 a (by omega), hF1 8 5 a (by omega)]
                    exact hL.2 a q' hq
  refine eX8_find (vX8_find_0 rfl fun _ M1 e1 => ?_)
  have f1 : ∀ o a b, ¬ (o = 8 ∧ a = 0 ∧ b = 5) → M1 o a b = M o a b := fun o a b zz => by rw [e1]; simp only [sl_wr]; rw [if_neg (by omega)]
  refine eX1_program (vX1_program_0 fun _ => ⟨s, ⟨by rw [f1 6 0 0 (by omega)]; exact hd.1, hs7⟩, _, rfl, hc, ?_⟩)
  have hC1 : Cd M1 (s + 10) P := hF.2.1.frame (fun a b => f1 _ a b (by omega))
  refine kX8_inBlock hc hw h2 hC1 hs' (by rw [f1 7 0 0 (by omega), p0]) (by rw [f1 7 0 1 (by omega), p1]) ⟨_, rfl, ?_⟩
  show sl_rg (M1 7 0 2 - M1 7 0 0 + 1) ∧ ∀ y7 : Int, y7 = M1 7 0 2 - M1 7 0 0 + 1 → sl_At l mX8_find 36 [(0, vR 8 0), (1, vR 7 0), (2, vR 6 0), (3, vR (s + 10) 0), (4, vI (1 + (cnB P j 40 i : Int))), (5, vI y7), (6, vI 0), (7, vI 0)] [] M1 Q
  rw [f1 7 0 2 (by omega), f1 7 0 0 (by omega), p0, p2]
  refine ⟨by omega, fun y ey => ?_⟩
  have ey : y = P 3 j - i := by omega
  subst ey
  refine loop (P 0 0).toNat 0 0 M1 [] (by omega) (by omega) sl_rg0 (fun o a b zz => f1 o a b (by omega)) ?_ ⟨by rw [e1, sl_wr_s]; rfl, fun a q hq => by simp at hq⟩ (by simp) (fun z => (z rfl).elim) rfl
  have e00 : M1 6 0 0 = M 6 0 0 := f1 6 0 0 (by omega)
  have e3' : M1 6 3 = M 6 3 := by funext b; exact f1 6 3 b (by omega)
  have e4' : M1 6 4 = M 6 4 := by funext b; exact f1 6 4 b (by omega)
  unfold Sd
  rw [e00, e3', e4']; exact hd
/-- the question -/
noncomputable def qAlike (P : Pg) (i j w k : Int) : Int × Int := if ¬ ((0 ≤ w ∧ w ≤ 2) ∧ 0 ≤ k ∧ (w = 2 → k ≤ 7)) then (-2, 1) else if ¬ isp P i j then (-3, 2) else (if w = 0 then ((tka P i j).length : Int) else if w = 1 then (if ((tka P i j).length : Int) ≤ k then -1 else ((tka P i j).getD k.toNat (0, fun _ => -1)).1) else (match tka P i j with | [] => -1 | q :: _ => q.2 k), 0)
theorem Ci.cs2 {R rho : Int → Int} (h : Ci M R rho) : WF2 (ly R rho) := h.2.1.2.1.wf2
theorem kX9_alike (hC : Cs M P) (h2 : WF2 P) (ht : Tc M) {i j w k : Int} (hQ : ∀ N, CR M N P (qAlike P i j w k).2 → Q (some (vI (qAlike P i j w k).1)) N) : sl_Runs l mX9_alike [vR 0 0, vI i, vI j, vI w, vI k] M Q := by
  have bad : ¬ ((0 ≤ w ∧ w ≤ 2) ∧ 0 ≤ k ∧ (w = 2 → k ≤ 7)) → sl_RI l mX9_refuse [vR 0 0, vI (-2)] M (fun y M => Q (some (vI y)) M) := fun z => kX9_refuse hC ht (by omega) (fun N f => ⟨_, rfl, askc hQ (if_pos z) f⟩)
  have go : ((0 ≤ w ∧ w ≤ 2) ∧ 0 ≤ k ∧ (w = 2 → k ≤ 7)) → sl_At l mX9_alike 33 [(0, vR 0 0), (1, vI i), (2, vI j), (3, vI w), (4, vI k)] [] M Q := by
    intro hq
    refine vX9_alike_33 fun _ _ _ _ _ => kX9_choose hC (fun N f1 hC1 hsp => ⟨_, rfl, fun z => ?_, fun z => ?_⟩)
    · have hs := isp_yes z
      obtain ⟨sp, sd⟩ := hsp hs
      have hC1' := hC1
      obtain ⟨c4, hw, hF, hS, hk⟩ := hC1
      have eps : ps N = ps M := by unfold ps; rw [f1 0 0 4 (by omega)]
      have sr := cls7 hF.1
      rw [← eps] at sd
      refine kX8_find hw h2 hF sd hS hs sp (fun O f2 sd2 tl cb => ⟨rfl, ?_⟩)
      have l40 : (tka P i j).length ≤ 40 := by have : (tka P i j).length ≤ _ := tks_len (P := P) (i := i) (j := j) (P 0 0).toNat 0 0; have := hw.n0; omega
      have hCO : Cs O P := hC1'.mv (fun o a b zz => f2 o a b (by omega)) (Or.inr sd2)
      have cr : CR M O P 0 := by
        have f3 : CF M O := fun o a b zz => by rw [f2 o a b (by omega)]; exact f1 o a b zz
        exact f3.cr hCO
      refine ⟨fun z0 => ?_, fun z1 => ⟨fun z2 => by rw [tl.1] at z2; omega, ?_⟩, fun z2 => ?_⟩
      · rw [tl.1]
        refine askc hQ ?_ cr
        unfold qAlike; rw [if_neg (fun q => q hq), if_neg (fun q => q hs), if_pos z0]
      · rw [tl.1]
        refine askc hQ ?_ cr
        unfold qAlike; rw [if_neg (fun q => q hq), if_neg (fun q => q hs), if_neg (by omega), if_pos z1]
        by_cases c : ((tka P i j).length : Int) ≤ k
        · rw [if_pos c, if_pos c]
        · rw [if_neg c, if_neg c]
          have hlt : k.toNat < (tka P i j).length := by omega
          have := (tl.2 k.toNat _ (List.getElem?_eq_getElem hlt)).1
          rw [show ((k.toNat : Nat) : Int) = k by omega] at this
          rw [this, List.getD_eq_getElem?_getD, List.getElem?_eq_getElem hlt]; rfl
      · -- the variable that replaces k
        have e2 : w = 2 := by omega
        have k7 := hq.2.2 e2
        refine eX8_replacement (vX8_replacement_0 fun _ _ => ⟨fun q => ⟨_, rfl, ?_⟩, fun q => ⟨fun q2 => ⟨_, rfl, ?_⟩, fun q2 => ⟨_, rfl, ?_⟩⟩⟩)
        · rw [tl.1] at q
          refine askc hQ ?_ cr
          unfold qAlike; rw [if_neg (fun q => q hq), if_neg (fun q => q hs), if_neg (by omega), if_neg (by omega)]
          cases h : tka P i j with
          | nil => rfl
          | cons a t => rw [h, List.length_cons] at q; omega
        · refine askc hQ ?_ cr
          unfold qAlike; rw [if_neg (fun q => q hq), if_neg (fun q => q hs), if_neg (by omega), if_neg (by omega)]
          cases h : tka P i j with
          | nil => rfl
          | cons a t =>
            have me := tks_mem (P := P) (i := i) (j := j) (P 0 0).toNat 0 0 a (by show a ∈ tka P i j; rw [h]; exact List.mem_cons_self ..)
            have ci := cand_inv me.2.2.2
            have cp := cand_isp hw (f := a.1) ⟨me.1, by have := me.2.1; have := hw.n0; omega⟩ ci.2
            have d := mtc_dom hS hw hs me.1 cp.2 ⟨ci.2.2.2.2.1, ci.1⟩
            have nb : ¬ bt (O 8 0 6) k.toNat = true := fun u => q2 ((has0 (by omega)).mpr u)
            rw [cb (by rw [h]; exact List.cons_ne_nil _ _) k.toNat (by omega), show ((k.toNat : Nat) : Int) = k by omega, ← d.2 k (by omega) (by omega)] at nb
            have : a.2 k = -1 := Classical.byContradiction nb
            show (a.2 k, (0 : Int)) = (-1, 0)
            rw [this]
        · refine askc hQ ?_ cr
          unfold qAlike; rw [if_neg (fun q => q hq), if_neg (fun q => q hs), if_neg (by omega), if_neg (by omega)]
          cases h : tka P i j with
          | nil => rw [tl.1, h] at q; exact (q (by show ((0 : Nat) : Int) ≤ 0; omega)).elim
          | cons a t =>
            have me := tks_mem (P := P) (i := i) (j := j) (P 0 0).toNat 0 0 a (by show a ∈ tka P i j; rw [h]; exact List.mem_cons_self ..)
            have ci := cand_inv me.2.2.2
            have cp := cand_isp hw (f := a.1) ⟨me.1, by have := me.2.1; have := hw.n0; omega⟩ ci.2
            have d := mtc_dom hS hw hs me.1 cp.2 ⟨ci.2.2.2.2.1, ci.1⟩
            have nb : bt (O 8 0 6) k.toNat = true := (has0 (by omega)).mp q2
            rw [cb (by rw [h]; exact List.cons_ne_nil _ _) k.toNat (by omega), show ((k.toNat : Nat) : Int) = k by omega, ← d.2 k (by omega) (by omega)] at nb
            have t5 := (tl.2 0 a (by rw [h]; rfl)).2
            have e5 : O 8 5 0 = pkn a.2 := t5
            show (a.2 k, (0 : Int)) = (rn (O 8 5 0) k, 0)
            rw [e5, rn_pkn d.1.1 (by omega) nb]
    · have hs := isp_no z
      refine kX9_refuse hC1 (f1.tc ht) (by omega) (fun O f2 => ⟨_, rfl, askc hQ ?_ (CR.tr f1 f2)⟩)
      unfold qAlike; rw [if_neg (fun q => q hq), if_pos hs]; rfl
  refine eX9_alike (vX9_alike_0 fun _ _ _ _ _ => ⟨fun z => bad (by omega), fun z => ⟨fun z2 => bad (by omega), fun z2 => ⟨fun z3 => bad (by omega), fun z3 => ⟨fun z4 => go (by omega), fun z4 => ⟨fun z5 => go (by omega), fun z5 => bad (by omega)⟩⟩⟩⟩⟩)
end K
