/-! Each call is answered alike -/
/-- the kind of an answer -/
def pkd (rt : Option FieldType) (v : sl_V) : Prop := match rt with
  | some .long => ∃ x, v = vL x
  | _ => ∃ z, v = vI z
theorem pkI {z : Int} : pkd (some .int) (vI z) := ⟨z, rfl⟩
theorem pkL {x : Int64} : pkd (some .long) (vL x) := ⟨x, rfl⟩
/-- the class's call and the reference's: one answer, and what holds goes on to hold -/
def PrA (l : Launch) (mC mR : sl_F) (as : List sl_V) (Mc Mr : sl_M) (J' : sl_M → sl_M → Prop) : Prop := ∃ (v : sl_V) (C : sl_M → Prop), sl_Runs l mC (vR 0 0 :: as) Mc (fun r N => r = some v ∧ C N) ∧ (∀ Nc, C Nc → sl_Runs l mR (vR 1 0 :: as) Mr (fun r N => r = some v ∧ J' Nc N)) ∧ pkd mC.rt v
/-- the same, once it is known that the reference's call comes to an end -/
def Prs (l : Launch) (mC mR : sl_F) (as : List sl_V) (Mc Mr : sl_M) (J' : sl_M → sl_M → Prop) : Prop := PrA l mC mR as Mc Mr J' ∨ ∃ X : sl_R, sl_Runs l mR (vR 1 0 :: as) Mr X ∧ ∀ r0 N0, X r0 N0 → PrA l mC mR as Mc Mr J'
section P
variable {l : Launch} {n : Int} {rh : Int → Int → Int} {Mc Mr : sl_M}
theorem p_statement (h : Jr n rh Mc Mr) (hn : n ≤ 1000000) {a b : Int} : Prs l mX9_statement mX10_statement [vI a, vI b] Mc Mr (Jv (n + 1)) := Or.inl ⟨_, _, kX9_statement h.ci.cs (h.tc hn) (fun N f => ⟨rfl, f⟩), fun Nc hc => kX10_statement h.good.rda (h.tl hn) (fun N f => ⟨rfl, rh, h.ask hc f⟩), pkI⟩
theorem p_sign (h : Jr n rh Mc Mr) (hn : n ≤ 1000000) {a b : Int} : Prs l mX9_sign mX10_sign [vI a, vI b] Mc Mr (Jv (n + 1)) := Or.inl ⟨_, _, kX9_sign h.ci.cs (h.tc hn) (fun N f => ⟨rfl, f⟩), fun Nc hc => kX10_sign h.good.rda (h.tl hn) (fun N f => ⟨rfl, rh, h.ask hc f⟩), pkI⟩
theorem p_span (h : Jr n rh Mc Mr) (hn : n ≤ 1000000) {a b c : Int} : Prs l mX9_span mX10_span [vI a, vI b, vI c] Mc Mr (Jv (n + 1)) := Or.inl ⟨_, _, kX9_span h.ci.cs (h.tc hn) (fun N f => ⟨rfl, f⟩), fun Nc hc => kX10_span h.good.rda (h.tl hn) (fun N f => ⟨rfl, rh, h.ask hc f⟩), pkI⟩
theorem p_hands (h : Jr n rh Mc Mr) (hn : n ≤ 1000000) {a b c d : Int} : Prs l mX9_hands mX10_hands [vI a, vI b, vI c, vI d] Mc Mr (Jv (n + 1)) := Or.inl ⟨_, _, kX9_hands h.ci.cs (h.tc hn) (fun N f => ⟨rfl, f⟩), fun Nc hc => kX10_hands h.good.rda (h.tl hn) (fun N f => ⟨rfl, rh, h.ask hc f⟩), pkI⟩
theorem p_live (h : Jr n rh Mc Mr) (hn : n ≤ 1000000) {a b c d : Int} : Prs l mX9_live mX10_live [vI a, vI b, vI c, vI d] Mc Mr (Jv (n + 1)) := Or.inl ⟨_, _, kX9_live h.ci.cs (h.tc hn) (fun N f => ⟨rfl, f⟩), fun Nc hc => kX10_live h.good.rda (h.tl hn) (fun N f => ⟨rfl, rh, h.ask hc f⟩), pkI⟩
theorem p_sure (h : Jr n rh Mc Mr) (hn : n ≤ 1000000) {a b : Int} : Prs l mX9_sure mX10_sure [vI a, vI b] Mc Mr (Jv (n + 1)) := Or.inl ⟨_, _, kX9_sure h.ci.cs (h.tc hn) (fun N f => ⟨rfl, f⟩), fun Nc hc => kX10_sure h.good.rda (h.tl hn) (fun N f => ⟨rfl, rh, h.ask hc f⟩), pkI⟩
theorem p_alike (h : Jr n rh Mc Mr) (hn : n ≤ 1000000) {a b c d : Int} : Prs l mX9_alike mX10_alike [vI a, vI b, vI c, vI d] Mc Mr (Jv (n + 1)) := Or.inl ⟨_, _, kX9_alike h.ci.cs h.ci.cs2 (h.tc hn) (fun N f => ⟨rfl, f⟩), fun Nc hc => kX10_alike h.good (h.tl hn) (fun N f => ⟨rfl, rh, h.ask hc f⟩), pkI⟩
theorem p_method (h : Jr n rh Mc Mr) (hn : n ≤ 1000000) {a b : Int} : Prs l mX9_method mX10_method [vI a, vI b] Mc Mr (Jv (n + 1)) := Or.inl ⟨_, _, kX9_method h.ci (h.tc hn) (fun N f => ⟨rfl, f⟩), fun Nc hc => kX10_method h.good (h.tl hn) (fun N f => ⟨rfl, rh, h.ask hc f⟩), pkI⟩
theorem p_formal (h : Jr n rh Mc Mr) (hn : n ≤ 1000000) {a b c : Int} : Prs l mX9_formal mX10_formal [vI a, vI b, vI c] Mc Mr (Jv (n + 1)) := Or.inl ⟨_, _, kX9_formal h.ci (h.tc hn) (fun N f => ⟨rfl, f⟩), fun Nc hc => kX10_formal h.good (h.tl hn) (fun N f => ⟨rfl, rh, h.ask hc f⟩), pkI⟩
theorem Jr.tal (h : Jr n rh Mc Mr) : talR Mr (rh 0) = talC Mc (Mr 1 1) (rh 0) := by
  obtain ⟨hT, hX, -, hS⟩ := h
  have t0 := (hT 0 (by omega) (by omega)).1
  have t1 := (hT 1 (by omega) (by omega)).1
  have t2 := (hT 2 (by omega) (by omega)).1
  have e0 : Mr 1 0 4 = Mc 0 3 0 := t0.symm
  have e1 : Mr 1 0 5 = Mc 0 3 1 := t1.symm
  have e2 : Mr 1 0 6 = Mc 0 3 2 := t2.symm
  unfold talR talC
  rw [e0, e1, e2, hX.1, hS.2.2.1]
theorem p_told (h : Jr n rh Mc Mr) (hn : n ≤ 1000000) {a : Int} : Prs l mX9_told mX10_told [vI a] Mc Mr (Jv (n + 1)) := Or.inl ⟨_, _, kX9_told h.ci (h.tc hn) (fun N f => ⟨rfl, f⟩), fun Nc hc => kX10_told h.good (h.tl hn) (by rw [h.tal]; exact fun N f => ⟨rfl, rh, h.ask hc f⟩), pkI⟩
theorem p_digest (h : Jr n rh Mc Mr) : Prs l mX9_digest mX10_digest [] Mc Mr (Jv (n + 1)) := Or.inl ⟨_, fun N => N = Mc, kX9_digest h.ci ⟨rfl, rfl⟩, fun Nc hc => kX10_digest h.good (by rw [h.tal]; exact fun N f => ⟨rfl, rh, by rw [hc]; exact h.ask (CF.rf.cr h.ci.cs) f.fr⟩), pkL⟩
theorem p_ran (h : Jr n rh Mc Mr) (hn : n ≤ 1000000) {a b : Int} : Prs l mX9_ran mX10_ran [vI a, vI b] Mc Mr (Jv (n + 1)) := by
  obtain ⟨r1, r2, r3, r4, r5, r6⟩ := h.2.2.1
  have e : qRan (Mr 1 0 54) (Mr 1 0 55) (Mr 1 0 56) (Mr 1 58) (Mr 1 0 58) a b = qRan (Mc 3 0 2) (Mc 3 0 3) (Mc 3 0 5) (Mc 3 5) (Mc 4 0 1) a b := by
    rw [r1, r2, r3, r6]
    unfold qRan
    by_cases c : (0 ≤ a ∧ a ≤ 4) ∧ 0 ≤ b
    · rw [if_pos c, if_pos c]
      by_cases z : Mc 3 0 5 ≤ b
      · rw [if_pos z, if_pos z]
      · rw [if_neg z, if_neg z, r5 b c.2 (by omega)]
    · rw [if_neg c, if_neg c]
  exact Or.inl ⟨_, _, kX9_ran h.ci.cs (h.tc hn) r4 (fun N f => ⟨rfl, f⟩), fun Nc hc => kX10_ran (h.tl hn) (by rw [r3]; exact r4) (by rw [e]; exact fun N f => ⟨rfl, rh, h.ask hc f⟩), pkI⟩
theorem p_type (h : Jr n rh Mc Mr) (hn : n ≤ 1000000) {c : Int} : Prs l mX9_type mX10_type [vI c] Mc Mr (Jv (n + 1)) := by
  obtain ⟨x1, x2, x3, x4⟩ := h.2.1
  have x2' : 0 ≤ Mr 1 0 7 ∧ Mr 1 0 7 ≤ 160 := by rw [x1]; exact x2
  by_cases c1 : 0 ≤ c ∧ c ≤ 127
  · by_cases c2 : Mc 0 0 1 = 160
    · exact Or.inl ⟨vI (-4), fun N => CR Mc N (ly (Mr 1 1) (rh 0)) 3, kX9_type h.ci.cs (h.tc hn) x2 (fun z => (z c1).elim) (fun _ _ N f => ⟨rfl, f⟩) (fun _ z => (z c2).elim), fun Nc hc => kX10_type (h.tl hn) x2' (fun z => (z c1).elim) (fun _ _ N f => ⟨rfl, rh, h.ask hc f⟩) (fun _ z => (z (by rw [x1]; exact c2)).elim), pkI⟩
    · refine Or.inl ⟨vI (Mc 0 0 1 + 1), fun N => (∀ o i j, ¬ (o = 0 ∧ ((i = 0 ∧ j = 1) ∨ (i = 1 ∧ j = Mc 0 0 1))) → N o i j = Mc o i j) ∧ N 0 0 1 = Mc 0 0 1 + 1 ∧ N 0 1 (Mc 0 0 1) = c, kX9_type h.ci.cs (h.tc hn) x2 (fun z => (z c1).elim) (fun _ z => (c2 z).elim) (fun _ _ N f a b => ⟨rfl, f, a, b⟩), fun Nc hc => kX10_type (h.tl hn) x2' (fun z => (z c1).elim) (fun _ z => (c2 (by rw [← x1]; exact z)).elim) ?_, pkI⟩
      rw [x1]
      intro _ _ N g a b
      obtain ⟨f, fa, fb⟩ := hc
      refine ⟨rfl, rh, ?_⟩
      obtain ⟨hT, hX, hR, hS⟩ := h
      refine ⟨fun j j0 j1 => ?_, ⟨by rw [a, fa], by rw [fa]; omega, ?_, fun q q0 q1 => ?_⟩, hR.fr (fun i j => f 3 i j (by omega)) (f 4 0 1 (by omega)) (fun j j0 j1 => g 1 0 j (by omega)) (fun q => g 1 58 q (by omega)), hS.fr (f 0 0 4 (by omega)) (f 0 0 5 (by omega)) (fun o i j o0 _ => f o i j (by omega)) ?_ (g 1 0 2 (by omega)) (g 1 0 3 (by omega)) (fun q => g 1 1 q (by omega)) (fun q => g 1 2 q (by omega))⟩
      · have := hT j j0 j1
        rw [f 0 3 j (by omega), g 1 0 (4 + j) (by omega)]; omega
      · funext q
        by_cases e : q = Mc 0 0 1
        · rw [e, b, fb]
        · rw [f 0 1 q (by omega), g 1 9 q (by omega), x3]
      · rw [fa] at q1
        by_cases e : q = Mc 0 0 1
        · rw [e, fb]; exact c1.1
        · rw [f 0 1 q (by omega)]; exact x4 q q0 (by omega)
      · exact hS.2.2.2.2.2.2.elim (fun z => Or.inl (by rw [f 6 0 1 (by omega)]; exact z)) (fun z => Or.inr (z.fr (fun i j => f 6 i j (by omega))))
  · exact Or.inl ⟨vI (-2), fun N => CR Mc N (ly (Mr 1 1) (rh 0)) 1, kX9_type h.ci.cs (h.tc hn) x2 (fun _ N f => ⟨rfl, f⟩) (fun z => (c1 z).elim) (fun z => (c1 z).elim), fun Nc hc => kX10_type (h.tl hn) x2' (fun _ N f => ⟨rfl, rh, h.ask hc f⟩) (fun z => (c1 z).elim) (fun z => (c1 z).elim), pkI⟩
theorem p_clear (h : Jr n rh Mc Mr) : Prs l mX9_clear mX10_clear [] Mc Mr (Jv (n + 1)) := by
  refine Or.inl ⟨_, fun N => N = sl_wr Mc 0 0 1 0, kX9_clear ⟨rfl, rfl⟩, fun Nc hc => kX10_clear ⟨?_, rh, ?_⟩, pkI⟩
  · rw [h.2.1.1]
  · obtain ⟨hT, hX, hR, hS⟩ := h
    obtain ⟨x1, x2, x3, x4⟩ := hX
    have f : ∀ o i j, ¬ (o = 0 ∧ i = 0 ∧ j = 1) → Nc o i j = Mc o i j := fun o i j z => by rw [hc]; simp only [sl_wr]; rw [if_neg z]
    have fa : Nc 0 0 1 = 0 := by rw [hc]; exact sl_wr_s
    have ga : sl_wr Mr 1 0 7 0 1 0 7 = 0 := sl_wr_s
    have g : ∀ o i j, ¬ (o = 1 ∧ i = 0 ∧ j = 7) → sl_wr Mr 1 0 7 0 o i j = Mr o i j := fun o i j z => by simp only [sl_wr]; rw [if_neg z]
    generalize sl_wr Mr 1 0 7 0 = N at *
    refine ⟨fun j j0 j1 => ?_, ⟨by rw [ga, fa], by rw [fa]; omega, ?_, fun q q0 q1 => by rw [fa] at q1; omega⟩, hR.fr (fun i j => f 3 i j (by omega)) (f 4 0 1 (by omega)) (fun j j0 j1 => g 1 0 j (by omega)) (fun q => g 1 58 q (by omega)), hS.fr (f 0 0 4 (by omega)) (f 0 0 5 (by omega)) (fun o i j o0 _ => f o i j (by omega)) ?_ (g 1 0 2 (by omega)) (g 1 0 3 (by omega)) (fun q => g 1 1 q (by omega)) (fun q => g 1 2 q (by omega))⟩
    · have := hT j j0 j1
      rw [f 0 3 j (by omega), g 1 0 (4 + j) (by omega)]; omega
    · funext q
      rw [f 0 1 q (by omega), g 1 9 q (by omega), x3]
    · exact hS.2.2.2.2.2.2.elim (fun z => Or.inl (by rw [f 6 0 1 (by omega)]; exact z)) (fun z => Or.inr (z.fr (fun i j => f 6 i j (by omega))))
theorem p_runs (h : Jr n rh Mc Mr) {a b : Int} : Prs l mX9_runs mX10_runs [vI a, vI b] Mc Mr (Jv (n + 1)) := by
  refine Or.inl ⟨_, fun N => (∀ o i j, o ≠ 3 → o ≠ 4 → o ≠ 5 → N o i j = Mc o i j) ∧ N 4 0 1 = (runA (Mr 1 1) (rh 0) a b).2.1 ∧ CG N (runA (Mr 1 1) (rh 0) a b).2.2 ∧ gI (runA (Mr 1 1) (rh 0) a b).2.2, kX9_runs h.ci (fun N f c g i => ⟨rfl, f, c, g, i⟩), fun Nc hc => kX10_runs h.good (fun N g c r i => ⟨rfl, rh, ?_⟩), pkI⟩
  obtain ⟨f, c', g', i'⟩ := hc
  obtain ⟨hT, hX, hR, hS⟩ := h
  refine ⟨fun j j0 j1 => ?_, hX.fr (f 0 0 1 (by omega) (by omega) (by omega)) (fun q => f 0 1 q (by omega) (by omega) (by omega)) (g 1 0 7 (by omega)) (fun q => g 1 9 q (by omega)), ?_, hS.fr (f 0 0 4 (by omega) (by omega) (by omega)) (f 0 0 5 (by omega) (by omega) (by omega)) (fun o i j o0 _ => f o i j (by omega) (by omega) (by omega)) ?_ (g 1 0 2 (by omega)) (g 1 0 3 (by omega)) (fun q => g 1 1 q (by omega)) (fun q => g 1 2 q (by omega))⟩
  · have := hT j j0 j1
    rw [f 0 3 j (by omega) (by omega) (by omega), g 1 0 (4 + j) (by omega)]; omega
  · obtain ⟨a1, a2, a3, a4⟩ := g'
    obtain ⟨b1, b2, b3, b4⟩ := r
    unfold gI at i
    refine ⟨by rw [a1, b1], by rw [a2, b2], by rw [a3, b3], by rw [a3]; omega, fun k k0 k1 => ?_, by rw [c, c']⟩
    rw [a3] at k1
    rw [a4 k k0 k1, b4 k k0 k1]
  · exact hS.2.2.2.2.2.2.elim (fun z => Or.inl (by rw [f 6 0 1 (by omega) (by omega) (by omega)]; exact z)) (fun z => Or.inr (z.fr (fun i j => f 6 i j (by omega) (by omega) (by omega))))
theorem p_back (h : Jr n rh Mc Mr) (hn : n ≤ 1000000) : Prs l mX9_back mX10_back [] Mc Mr (Jv (n + 1)) := by
  obtain ⟨h1, h2, h3, h4, -⟩ := h.2.2.2
  by_cases c : Mc 0 0 5 = 0
  · exact Or.inl ⟨vI (-3), fun N => CR Mc N (ly (Mr 1 1) (rh 0)) 2, kX9_back h.ci.cs (h.tc hn) h2 (fun _ N f => ⟨rfl, f⟩) (fun z => (z c).elim), fun Nc hc => kX10_back (h.tl hn) h4 (by rw [h3]; exact h2) (fun _ N f => ⟨rfl, rh, h.ask hc f⟩) (fun z => (z (by rw [h3]; exact c)).elim), pkI⟩
  · refine Or.inl ⟨vI (Mc 0 0 5 - 1), fun N => (∀ o i j, ¬ ((o = 0 ∧ i = 0 ∧ (j = 4 ∨ j = 5)) ∨ (o = 6 ∧ i = 0 ∧ j = 1)) → N o i j = Mc o i j) ∧ N 0 0 4 = (Mc 0 0 4 + 7) % 8 ∧ N 0 0 5 = Mc 0 0 5 - 1 ∧ N 6 0 1 = 0, kX9_back h.ci.cs (h.tc hn) h2 (fun z => (c z).elim) (fun _ N f a b d => ⟨rfl, f, a, b, d⟩), fun Nc hc => kX10_back (h.tl hn) h4 (by rw [h3]; exact h2) (fun z => (c (by rw [← h3]; exact z)).elim) (fun _ N g a b k => ⟨by rw [h3], ?_⟩), pkI⟩
    obtain ⟨f, fa, fb, fd⟩ := hc
    exact h.bck c f fa fb fd g a b k
theorem p_reads (h : Jr n rh Mc Mr) : Prs l mX9_reads mX10_reads [] Mc Mr (Jv (n + 1)) := by
  obtain ⟨h1, h2, h3, h4, h5, -⟩ := h.2.2.2
  obtain ⟨x1, x2, x3, x4⟩ := h.2.1
  have iv := rdA_inv (t := Mc 0 1) x2
  have tx : Txt Mr (Mc 0 1) (Mc 0 0 1) := ⟨x3, x1, x2, x4⟩
  by_cases c : (rdA (Mc 0 1) (Mc 0 0 1)).1 = 0
  · refine Or.inl ⟨vI (-10 - (rdA (Mc 0 1) (Mc 0 0 1)).2.1), fun N => CSp Mc N, kX9_reads (rho2 := fun _ => 0) h1 h2 rfl x2 rfl x4 (fun _ N f => ⟨rfl, f⟩) (fun z => (z c).elim), fun Nc f => kX10_reads tx h4 (by rw [h3]; exact h2) (fun _ N g => ⟨rfl, rh, ?_⟩) (fun z => (z c).elim), pkI⟩
    obtain ⟨hT, hX, hR, hS⟩ := h
    have fl : ∀ o i j, o = 0 ∨ (3 ≤ o ∧ o ≤ 9) → Nc o i j = Mc o i j := fun o i j z => f o i j (by unfold StA; omega)
    refine ⟨fun j j0 j1 => ?_, hX.fr (fl 0 0 1 (by omega)) (fun q => fl 0 1 q (by omega)) (g 1 0 7 (by omega)) (fun q => g 1 9 q (by omega)), hR.fr (fun i j => fl 3 i j (by omega)) (fl 4 0 1 (by omega)) (fun j j0 j1 => g 1 0 j (by omega)) (fun q => g 1 58 q (by omega)), hS.fr (fl 0 0 4 (by omega)) (fl 0 0 5 (by omega)) (fun o i j o0 z => f o i j (fun w => w.elim (fun y => by omega) z)) ?_ (g 1 0 2 (by omega)) (g 1 0 3 (by omega)) (fun q => g 1 1 q (by omega)) (fun q => g 1 2 q (by omega))⟩
    · have := hT j j0 j1
      rw [fl 0 3 j (by omega), g 1 0 (4 + j) (by omega)]; omega
    · exact hS.2.2.2.2.2.2.elim (fun z => Or.inl (by rw [fl 6 0 1 (by omega)]; exact z)) (fun z => Or.inr (z.fr (fun i j => fl 6 i j (by omega))))
  · have hz := (iv.2 c).2.2.2.2
    refine Or.inl ⟨vI ((rdA (Mc 0 1) (Mc 0 0 1)).2.2.2.1 0), fun N => CAr Mc N (rdA (Mc 0 1) (Mc 0 0 1)).2.2.2.1 (fun _ => 0), kX9_reads (rho2 := fun _ => 0) h1 h2 rfl x2 rfl x4 (fun z => (c z).elim) (fun _ N f => ⟨rfl, f⟩), fun Nc f => kX10_reads tx h4 (by rw [h3]; exact h2) (fun z => (c z).elim) (fun _ N g a b k r => ⟨rfl, ?_⟩), pkI⟩
    refine h.adv f (fun q => ?_) (fun q z => hz q (by omega)) a b k (fun j z => g 1 2 j (by omega)) (fun q => g 1 9 q (by omega)) (fun q => g 1 58 q (by omega)) (fun j z => g 1 0 j (by omega))
    by_cases z : 0 ≤ q ∧ q < 990
    · exact r q z.1 z.2
    · rw [g 1 1 q (by omega), h5 q z]; exact (hz q (by omega)).symm
theorem CAd.car {R2 rho2 : Int → Int} {Nc : sl_M} (h : CAd Mc Nc R2 rho2) : CAr Mc Nc R2 rho2 := ⟨fun o i j z => h.1 o i j (fun w => z (Or.inr w)), h.2⟩
theorem p_settles (h : Jr n rh Mc Mr) (hn : n ≤ 1000000) {m : Int} : Prs l mX9_settles mX10_settles [vI m] Mc Mr (Jv (n + 1)) := by
  obtain ⟨h1, h2, h3, h4, h5, -⟩ := h.2.2.2
  have hG := h.good
  by_cases c : 0 ≤ m ∧ m < Mr 1 1 761
  · refine Or.inr ⟨fun _ N => ∃ sg, Stl (Mr 1 1) (N 1 1) m sg ∧ Rsw (Mr 1 1) (N 1 1), kX10_settles hG (h.tl hn) h4 (by rw [h3]; exact h2) (fun z => (z c).elim) (fun _ N K sg _ _ _ _ _ s w => ⟨sg, s, w⟩), fun _ N0 hN0 => ?_⟩
    obtain ⟨sg, s0, w0⟩ := hN0
    refine ⟨vI ((ol (Mr 1 1) m (Mr 1 1 789).toNat 0).length : Int), fun N => CAd Mc N (N0 1 1) (fun c => rh 0 (sg c)), kX9_settles h.ci (h.tc hn) h2 (fun _ => s0) (fun z => (z c).elim) (fun _ N f => ⟨rfl, f⟩), fun Nc f => kX10_settles hG (h.tl hn) h4 (by rw [h3]; exact h2) (fun z => (z c).elim) (fun _ N K sg' k1 k2 k3 k4 g s w => ⟨rfl, ?_⟩), pkI⟩
    have e : N 1 1 = N0 1 1 := s0.uniq s hG.2.1 w0 w
    have g' : ∀ o i j, ¬ (o = 1 ∧ ((i = 0 ∧ (j = 2 ∨ j = 3)) ∨ (i = 1 ∧ 761 ≤ j ∧ j < 990) ∨ (i = 2 ∧ 990 * Mr 1 0 3 ≤ j ∧ j < 990 * Mr 1 0 3 + 990))) → N o i j = Mr o i j := fun o i j z => by rw [g o i j (by omega), k1 o i j (by omega)]
    refine h.adv f.car (fun q => by rw [e]) (fun q z => ?_) (by rw [g 1 0 3 (by omega)]; exact k2) (by rw [g 1 0 2 (by omega)]; exact k3) (fun k k0 k1' => by rw [g 1 2 _ (by omega)]; exact k4 k k0 k1') (fun j z => g' 1 2 j (by omega)) (fun q => g' 1 9 q (by omega)) (fun q => g' 1 58 q (by omega)) (fun j z => g' 1 0 j (by omega))
    rw [w0.2.2 q z]; exact h5 q z
  · exact Or.inl ⟨vI (-2), fun N => CR Mc N (ly (Mr 1 1) (rh 0)) 1, kX9_settles (R2 := fun _ => 0) (sg := fun _ => 0) h.ci (h.tc hn) h2 (fun z => (c z).elim) (fun _ N f => ⟨rfl, f⟩) (fun z => (c z).elim), fun Nc hc => kX10_settles hG (h.tl hn) h4 (by rw [h3]; exact h2) (fun _ N f => ⟨rfl, rh, h.ask hc f⟩) (fun z => (c z).elim), pkI⟩
theorem p_lifts (h : Jr n rh Mc Mr) (hn : n ≤ 1000000) {i j all : Int} : Prs l mX9_lifts mX10_lifts [vI i, vI j, vI all] Mc Mr (Jv (n + 1)) := by
  obtain ⟨h1, h2, h3, h4, h5, -⟩ := h.2.2.2
  have hG := h.good
  have h2' : 0 ≤ Mr 1 0 2 ∧ Mr 1 0 2 ≤ 6 := by rw [h3]; exact h2
  by_cases c1 : 0 ≤ all ∧ all ≤ 1
  · by_cases c2 : isp (ly (Mr 1 1) (rh 0)) i j ∧ sB (ly (Mr 1 1) (rh 0)) i j = 0
    · by_cases c3 : Mr 1 1 761 = 3
      · exact Or.inl ⟨vI (-4), fun N => CR Mc N (ly (Mr 1 1) (rh 0)) 3, kX9_lifts (R2 := fun _ => 0) (rho2 := fun _ => 0) (fs := fun _ => 0) (es := fun _ => 0) h.ci (h.tc hn) h2 (fun _ _ z => (z c3).elim) (fun z => (z c1).elim) (fun _ z => (z c2).elim) (fun _ _ _ N f => ⟨rfl, f⟩) (fun _ _ z => (z c3).elim), fun Nc hc => kX10_lifts hG (h.tl hn) h4 h2' (fun z => (z c1).elim) (fun _ z => (z c2).elim) (fun _ _ _ N f => ⟨rfl, rh, h.ask hc f⟩) (fun _ _ z => (z c3).elim), pkI⟩
      · refine Or.inr ⟨fun _ N => Lft (Mr 1 1) (rh 0) (N 1 1) (lfR (rh 0) (Mr 1 1 789) (lfK (ly (Mr 1 1) (rh 0)) i j all (tka (ly (Mr 1 1) (rh 0)) i j))) i j (lfF (Mr 1 1 789) i (lfK (ly (Mr 1 1) (rh 0)) i j all (tka (ly (Mr 1 1) (rh 0)) i j))) (lfE (ly (Mr 1 1) (rh 0)) (Mr 1 1 789) i j (lfK (ly (Mr 1 1) (rh 0)) i j all (tka (ly (Mr 1 1) (rh 0)) i j))) ∧ LfK (Mr 1 1) (N 1 1) (lfR (rh 0) (Mr 1 1 789) (lfK (ly (Mr 1 1) (rh 0)) i j all (tka (ly (Mr 1 1) (rh 0)) i j))) (lfF (Mr 1 1 789) i (lfK (ly (Mr 1 1) (rh 0)) i j all (tka (ly (Mr 1 1) (rh 0)) i j))) i (lfK (ly (Mr 1 1) (rh 0)) i j all (tka (ly (Mr 1 1) (rh 0)) i j)) ∧ Rsw (Mr 1 1) (N 1 1), kX10_lifts hG (h.tl hn) h4 h2' (fun z => (z c1).elim) (fun _ z => (z c2).elim) (fun _ _ z => (c3 z).elim) (fun _ _ _ N _ _ _ _ a b w => ⟨a, b, w⟩), fun _ N0 hN0 => ?_⟩
        obtain ⟨a0, b0, w0⟩ := hN0
        refine ⟨vI (1 + (lfK (ly (Mr 1 1) (rh 0)) i j all (tka (ly (Mr 1 1) (rh 0)) i j)).length), fun N => CAd Mc N (N0 1 1) (lfR (rh 0) (Mr 1 1 789) (lfK (ly (Mr 1 1) (rh 0)) i j all (tka (ly (Mr 1 1) (rh 0)) i j))), kX9_lifts h.ci (h.tc hn) h2 (fun _ _ _ => ⟨a0, b0⟩) (fun z => (z c1).elim) (fun _ z => (z c2).elim) (fun _ _ z => (c3 z).elim) (fun _ _ _ N f => ⟨rfl, f⟩), fun Nc f => kX10_lifts hG (h.tl hn) h4 h2' (fun z => (z c1).elim) (fun _ z => (z c2).elim) (fun _ _ z => (c3 z).elim) (fun _ _ _ N g k2 k3 k4 a b w => ⟨rfl, ?_⟩), pkI⟩
        have e : N 1 1 = N0 1 1 := a0.uniq a (by rw [b.1, b0.1]) w0 w
        refine h.adv f.car (fun q => by rw [e]) (fun q z => ?_) k2 k3 k4 (fun j z => g 1 2 j (by omega)) (fun q => g 1 9 q (by omega)) (fun q => g 1 58 q (by omega)) (fun j z => g 1 0 j (by omega))
        rw [w0.2.2 q z]; exact h5 q z
    · exact Or.inl ⟨vI (-3), fun N => CR Mc N (ly (Mr 1 1) (rh 0)) 2, kX9_lifts (R2 := fun _ => 0) (rho2 := fun _ => 0) (fs := fun _ => 0) (es := fun _ => 0) h.ci (h.tc hn) h2 (fun _ z => (c2 z).elim) (fun z => (z c1).elim) (fun _ _ N f => ⟨rfl, f⟩) (fun _ z => (c2 z).elim) (fun _ z => (c2 z).elim), fun Nc hc => kX10_lifts hG (h.tl hn) h4 h2' (fun z => (z c1).elim) (fun _ _ N f => ⟨rfl, rh, h.ask hc f⟩) (fun _ z => (c2 z).elim) (fun _ z => (c2 z).elim), pkI⟩
  · exact Or.inl ⟨vI (-2), fun N => CR Mc N (ly (Mr 1 1) (rh 0)) 1, kX9_lifts (R2 := fun _ => 0) (rho2 := fun _ => 0) (fs := fun _ => 0) (es := fun _ => 0) h.ci (h.tc hn) h2 (fun z => (c1 z).elim) (fun _ N f => ⟨rfl, f⟩) (fun z => (c1 z).elim) (fun z => (c1 z).elim) (fun z => (c1 z).elim), fun Nc hc => kX10_lifts hG (h.tl hn) h4 h2' (fun _ N f => ⟨rfl, rh, h.ask hc f⟩) (fun z => (c1 z).elim) (fun z => (c1 z).elim) (fun z => (c1 z).elim), pkI⟩
end P
