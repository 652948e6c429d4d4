/-! A statement is read, a block is closed: what holds all along goes on to hold -/
section S
variable {t B k : Int → Int} {L p q d : Int}
theorem sid_01 (h : RIv L p d B k) : sid d B k = 0 ∨ sid d B k = 1 := by
  obtain ⟨-, hd, hT, hS, -⟩ := h
  by_cases c : d = 0
  · rw [show sid d B k = 0 from if_pos c]; exact Or.inl rfl
  · rw [show sid d B k = B (161 + k (d - 1)) from if_neg c]
    obtain ⟨h1, -⟩ := hS (d - 1) (by omega) (by omega)
    exact (hT.2.2.2 _ h1.1 h1.2).2.2.2.2.2.2
theorem tpo_rng (h : RIv L p d B k) : -1 ≤ tpo d k ∧ tpo d k < B 0 := by
  obtain ⟨-, hd, hT, hS, -⟩ := h
  have n0 : 0 ≤ B 0 := hT.1.n0.1
  by_cases c : d = 0
  · rw [show tpo d k = -1 from if_pos c]; omega
  · rw [show tpo d k = k (d - 1) from if_neg c]
    obtain ⟨h1, -⟩ := hS (d - 1) (by omega) (by omega)
    omega
theorem stP_rng {x : Int} (hq : q < L) (hx : x = 0 → ch t L (sp t L (q + 1)) = 61) : q + 1 ≤ stP t L q x ∧ (x = 0 → q + 2 ≤ stP t L q x) ∧ stP t L q x ≤ L := by
  have r := sp_rng (t := t) (L := L) (p := q + 1) (by omega)
  by_cases c : x = 0
  · rw [show stP t L q x = sp t L (q + 1) + 1 from if_pos c]
    have := hx c
    have lt : sp t L (q + 1) < L := by
      refine Classical.byContradiction fun z => ?_
      unfold ch at this
      rw [if_pos (by omega)] at this; omega
    omega
  · rw [show stP t L q x = q + 1 from if_neg c]; omega
theorem rdS_inv (h : RIv L p d B k) (hq : p ≤ q ∧ q < L) (hr : (rdS t L q d B k).1 ≠ 0) : RIv L (rdS t L q d B k).2.1 (rdS t L q d B k).2.2.1 (rdS t L q d B k).2.2.2.1 (rdS t L q d B k).2.2.2.2 ∧ q < (rdS t L q d B k).2.1 ∧ (rdS t L q d B k).1 = 1 := by
  have s01 := sid_01 h
  have tr := tpo_rng h
  obtain ⟨hp, hd, hT, hS, hz⟩ := h
  have n0 : 0 ≤ B 0 ∧ B 0 ≤ 40 := hT.1.n0
  unfold rdS at hr ⊢
  generalize hx : kdA (t q) = x at *
  by_cases b : rdB x d B k
  · rw [if_pos b] at hr; exact (hr rfl).elim
  · rw [if_neg b] at hr ⊢
    have b1 : x ≠ -1 := fun z => b (Or.inl z)
    have b2 : B 0 ≠ 40 := fun z => b (Or.inr (Or.inl z))
    have b3 : isJ x → inL d B k := fun z => Classical.byContradiction fun w => b (Or.inr (Or.inr ⟨z, w⟩))
    by_cases c1 : x = 0 ∧ ch t L (sp t L (q + 1)) ≠ 61
    · rw [if_pos c1] at hr; exact (hr rfl).elim
    · rw [if_neg c1] at hr ⊢
      have pr := stP_rng (t := t) (x := x) hq.2 (fun z => Classical.byContradiction fun w => c1 ⟨z, w⟩)
      obtain ⟨e1, e2, e3, e4', e5, e6, e7⟩ := stE_ok (t := t) (q := q) (x := x) (B := B) pr.2.2
      generalize stE t L q x B = E at *
      by_cases c2 : E.1 = 0
      · rw [if_pos c2] at hr; exact (hr rfl).elim
      · rw [if_neg c2] at hr ⊢
        have e71 := e7 (e1.resolve_left c2)
        have sr := sp_rng (t := t) e3
        by_cases c3 : ch t L (sp t L E.2.1) ≠ (if isO x then 123 else 59)
        · rw [if_pos c3] at hr; exact (hr rfl).elim
        · rw [if_neg c3] at hr ⊢
          have lt : sp t L E.2.1 < L := by
            refine Classical.byContradiction fun z => c3 ?_
            unfold ch
            rw [if_pos (by omega)]
            split <;> omega
          have kr := kdA_rng (t q)
          rw [hx] at kr
          have hn : 0 ≤ B 0 ∧ B 0 < 40 := by omega
          have g := stB_grw (B := B) (u := tpo d k) (s := sid d B k) (x := x) (c := t q) (r := E) hn
          obtain ⟨a0, a1, a2, a3, a4, a5, a6, a7, a8⟩ := stB_new (B := B) (u := tpo d k) (s := sid d B k) (x := x) (c := t q) (r := E) hn
          have old := fun {j : Int} (j0 : 0 ≤ j) (j1 : j < B 0) => stB_old (B := B) (u := tpo d k) (s := sid d B k) (x := x) (c := t q) (r := E) hn j0 j1
          have oth : ∀ j, ¬ (0 ≤ j ∧ j ≤ 760) → stB B (tpo d k) (sid d B k) x (t q) E j = 0 := fun j z => by
            rw [stB_o (by omega) (by omega) (by omega) (by omega) (by omega) (by omega) (by omega) (by omega) (by omega) (by omega)]; exact hz j z
          have op := hS.opn hd.1
          generalize hB2 : stB B (tpo d k) (sid d B k) x (t q) E = B2 at *
          have w2 : WF (tp B2) := g.wf hT.1 hn.2 op (by omega) s01 (fun z => by
            by_cases c : d = 0
            · exact if_pos c
            · exfalso
              rw [show tpo d k = k (d - 1) from if_neg c] at z
              have := (hS (d - 1) (by omega) (by omega)).1
              omega) (fun z z6 => by
            by_cases c : d = 0
            · exact if_pos c
            · rw [show tpo d k = k (d - 1) from if_neg c] at z6
              rw [show sid d B k = B (161 + k (d - 1)) from if_neg c]
              exact (hS (d - 1) (by omega) (by omega)).2.2.2.2.1 z6)
          have w22 : WF2 (tp B2) := g.wf2 hT.2.1 (fun a q0 q1 e => by
            have e' : B (81 + a) = tpo d k := e
            show B (121 + a) ≤ sid d B k
            by_cases c : d = 0
            · rw [show tpo d k = -1 from if_pos c] at e'
              rw [show sid d B k = 0 from if_pos c]
              have : B (121 + a) = 0 := hT.1.rt (k := a) q0 q1 (by show B (81 + a) < 0; omega)
              omega
            · rw [show tpo d k = k (d - 1) from if_neg c] at e'
              rw [show sid d B k = B (161 + k (d - 1)) from if_neg c]
              exact (hS (d - 1) (by omega) (by omega)).2.2.2.2.2 a q0 q1 e')
          have lo : ∀ a, a < B 0 → la (tp B2) 0 40 a = la (tp B) 0 40 a := fun a ha => la_grw hT.1 g 40 a ha
          have wt2 : wt (tp B2) (B2 0).toNat ≤ sp t L E.2.1 + 1 := by
            rw [a0, wt_step n0.1, wt_eq (P := tp B) (B 0).toNat (fun j j0 j1 => ⟨(old j0 (by omega)).2.2.2.2.2.1, (old j0 (by omega)).1⟩)]
            have w := hT.2.2.1
            have f11 : tp B2 11 (B 0) = E.2.2.1 := a6
            have f1 : tp B2 1 (B 0) = x := a1
            rw [f11, f1]
            have q2 := pr.2.1
            by_cases cx : x = 0
            · rw [if_pos cx]; have := q2 cx; omega
            · rw [if_neg cx]; omega
          have tgt : ∀ j, 0 ≤ j → j < B2 0 → TGt B2 j := by
            intro j j0 j1
            by_cases e : j = B 0
            · subst e
              refine ⟨by rw [a1]; omega, fun z => ?_, by rw [a6]; exact ⟨e4', e5⟩, ⟨?_, fun i i0 i1 => ?_⟩, fun z => ?_, by rw [a6, a1]; exact e71.2, by rw [a4]; exact Or.inl rfl⟩
              · rw [a1] at z
                rw [a5, if_pos z]
                have kd := hx
                rw [z] at kd
                have : 97 ≤ t q ∧ t q ≤ 104 := by
                  unfold kdA at kd
                  refine Classical.byContradiction fun w => ?_
                  rw [if_neg w] at kd
                  revert kd
                  repeat' split
                  all_goals omega
                omega
              · have f11 : tp B2 11 (B 0) = E.2.2.1 := a6
                rw [f11]
                refine e71.1.elim Or.inl (fun z => Or.inr (WX_cong (fun i i0 i1 => ?_) z))
                show _ = tp B2 12 (16 * B 0 + i)
                rw [tp12 i0 (by omega), a8 i i0 (by omega)]
              · have f11 : i < E.2.2.1 := by rw [← a6]; exact i1
                rw [tp12 i0 (by omega), a8 i i0 (by omega)]
                exact e6 i i0 f11
              · rw [a1] at z
                rw [a2, lo _ tr.2]
                exact hS.l40 hT.1 (b3 z)
            · obtain ⟨o1, o2, o3, o4, o5, o6, o7, o8⟩ := old j0 (by omega)
              have tj := hT.2.2.2 j j0 (by omega)
              have pj : B (81 + j) < j := (hT.1.pr (k := j) j0 (by show j < B 0; omega)).2
              exact tj.old o1 o5 o6 o7 (by rw [o2]; exact lo _ (by omega)) (by rw [o4]; exact tj.2.2.2.2.2.2)
          refine ⟨⟨by show 0 ≤ sp t L E.2.1 + 1 ∧ sp t L E.2.1 + 1 ≤ L; omega, ?_, ⟨w2, w22, wt2, tgt⟩, ?_, oth⟩, by show q < sp t L E.2.1 + 1; omega, rfl⟩
          · show 0 ≤ (if isO x then d + 1 else d) ∧ (if isO x then d + 1 else d) ≤ B2 0
            rw [a0]; split <;> omega
          · intro a ha0 ha1
            have ha1' : a < (if isO x then d + 1 else d) := ha1
            by_cases ed : a = d
            · have ox : isO x := Classical.byContradiction fun z => by rw [if_neg z] at ha1'; omega
              subst ed
              show (0 ≤ (if a = a then B 0 else k a) ∧ (if a = a then B 0 else k a) < B2 0) ∧ _
              have ek : (fun b => if b = a then B 0 else k b) a = B 0 := if_pos rfl
              show (0 ≤ (fun b => if b = a then B 0 else k b) a ∧ (fun b => if b = a then B 0 else k b) a < B2 0) ∧ isO (B2 (1 + (fun b => if b = a then B 0 else k b) a)) ∧ B2 (41 + (fun b => if b = a then B 0 else k b) a) = B2 0 ∧ B2 (81 + (fun b => if b = a then B 0 else k b) a) = (if a = 0 then -1 else (fun b => if b = a then B 0 else k b) (a - 1)) ∧ (B2 (1 + (fun b => if b = a then B 0 else k b) a) = 6 → B2 (161 + (fun b => if b = a then B 0 else k b) a) = 0) ∧ ∀ y, 0 ≤ y → y < B2 0 → B2 (81 + y) = (fun b => if b = a then B 0 else k b) a → B2 (121 + y) ≤ B2 (161 + (fun b => if b = a then B 0 else k b) a)
              rw [ek, a0, a1, a7, a2, a4]
              refine ⟨by omega, ox, rfl, ?_, fun _ => rfl, fun y y0 y1 e => ?_⟩
              · show tpo a k = if a = 0 then -1 else (if a - 1 = a then B 0 else k (a - 1))
                rw [if_neg (show ¬ (a - 1 = a) by omega)]
              · exfalso
                by_cases ey : y = B 0
                · rw [ey, a2] at e; omega
                · rw [(old y0 (by omega)).2.1] at e
                  have : B (81 + y) < y := (hT.1.pr (k := y) y0 (by show y < B 0; omega)).2
                  omega
            · have ad : a < d := by revert ha1'; split <;> intro _ <;> omega
              have ek : (fun b => if b = d then B 0 else k b) a = k a := if_neg ed
              obtain ⟨s1, s2, s3, s4, s5, s6⟩ := hS a ha0 ad
              obtain ⟨o1, o2, o3, o4, o5, o6, o7, o8⟩ := old s1.1 s1.2
              have m := hS.mono hT.1 (d - 1 - a).toNat a (d - 1) ha0 (by omega) (by omega)
              have et : tpo d k = k (d - 1) := if_neg (by omega)
              show (0 ≤ (fun b => if b = d then B 0 else k b) a ∧ (fun b => if b = d then B 0 else k b) a < B2 0) ∧ isO (B2 (1 + (fun b => if b = d then B 0 else k b) a)) ∧ B2 (41 + (fun b => if b = d then B 0 else k b) a) = B2 0 ∧ B2 (81 + (fun b => if b = d then B 0 else k b) a) = (if a = 0 then -1 else (fun b => if b = d then B 0 else k b) (a - 1)) ∧ (B2 (1 + (fun b => if b = d then B 0 else k b) a) = 6 → B2 (161 + (fun b => if b = d then B 0 else k b) a) = 0) ∧ ∀ y, 0 ≤ y → y < B2 0 → B2 (81 + y) = (fun b => if b = d then B 0 else k b) a → B2 (121 + y) ≤ B2 (161 + (fun b => if b = d then B 0 else k b) a)
              rw [ek, a0, o1, o2, o4, o8, s3, if_pos ⟨by omega, by omega⟩]
              refine ⟨by omega, s2, rfl, ?_, s5, fun y y0 y1 e => ?_⟩
              · rw [s4]
                show (if a = 0 then -1 else k (a - 1)) = if a = 0 then -1 else (if a - 1 = d then B 0 else k (a - 1))
                rw [if_neg (show ¬ (a - 1 = d) by omega)]
              · by_cases ey : y = B 0
                · rw [ey, a2, et] at e
                  rw [ey, a3, show sid d B k = B (161 + k (d - 1)) from if_neg (by omega), e]
                  omega
                · obtain ⟨-, p2, p3, -⟩ := old y0 (show y < B 0 by omega)
                  rw [p2] at e
                  rw [p3]; exact s6 y y0 (by omega) e
end S
