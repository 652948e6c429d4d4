/-! The reference: whether statements told are alike -/
/-- the row tells T -/
def TR (R : Int → Int) (T : Pg) : Prop := ∀ t, 0 ≤ t → t < T 0 0 → R (1 + t) = T 1 t ∧ R (41 + t) = T 3 t ∧ R (81 + t) = T 2 t ∧ R (121 + t) = T 4 t ∧ R (161 + t) = T 5 t ∧ R (201 + t) = T 6 t ∧ R (241 + t) = T 11 t ∧ ∀ i, 0 ≤ i → i < 12 → R ((281 + (12 * t)) + i) = T 12 (16 * t + i)
theorem TG.tr {R : Int → Int} (h : TG (cutR R)) : TR R (tp (cutR R)) := by
  have n := h.1.n0
  intro t t0 t1
  have e : ∀ j, 0 ≤ j → j ≤ 760 → R j = cutR R j := fun j j0 j1 => (cutR_eq j0 j1).symm
  refine ⟨e _ (by omega) (by omega), e _ (by omega) (by omega), e _ (by omega) (by omega), e _ (by omega) (by omega), e _ (by omega) (by omega), e _ (by omega) (by omega), e _ (by omega) (by omega), fun i i0 i1 => ?_⟩
  rw [tp_12 (by omega)]
  exact e _ (by omega) (by omega)
/-- the answers under way -/
def Tr (N : sl_M) (to : Int → Int) : Prop := Inj to ∧ ∀ v, 0 ≤ v → v < 8 → N 1 50 v = to v
def FA50 (M N : sl_M) : Prop := ∀ o i j, ¬ (o = 1 ∧ i = 50) → N o i j = M o i j
theorem FA50.tr {M N O : sl_M} (h1 : FA50 M N) (h2 : FA50 N O) : FA50 M O := fun o i j z => (h2 o i j z).trans (h1 o i j z)
/-- what the reference asks of the shape -/
def shR (T : Pg) (a b x : Int) : Prop := T 1 (a + x) = T 1 (b + x) ∧ T 3 (a + x) - (a + x) = T 3 (b + x) - (b + x) ∧ T 5 (a + x) = T 5 (b + x) ∧ T 11 (a + x) = T 11 (b + x) ∧ (x = 0 ∨ T 4 (a + x) = T 4 (b + x) ∨ T 2 (a + x) = T 2 a)
section K
variable {l : Launch} {M : sl_M} {Q : sl_R} {T : Pg}
theorem kX10_answersTo {to : Int → Int} (hT : Tr M to) {v w : Int} (hv : 0 ≤ v ∧ v < 8) (hw : 0 ≤ w ∧ w < 8) (hQ : ∀ to' N, rp to v w = some to' → Tr N to' → FA50 M N → Q (some (vI 1)) N) (hN : rp to v w = none → Q (some (vI 0)) M) : sl_Runs l mX10_answersTo [vR 1 0, vI v, vI w] M Q := by
  have loop : ∀ (n : Nat) (k : Int), k + n = 8 → 0 ≤ k → (∀ u, 0 ≤ u → u < k → (u ≠ v → to u ≠ w) ∧ (u = v → to v = -1 ∨ to v = w)) → sl_At l mX10_answersTo 2 [(0, vR 1 0), (1, vI v), (2, vI w), (3, vI k)] [] M Q := by
    intro n
    induction n with
    | zero =>
      intro k hk k0 hu
      refine vX10_answersTo_2 fun _ _ _ _ => ⟨fun _ => ⟨hv, fun M3 e3 => ?_⟩, fun z => by omega⟩
      have f3 : FA50 M M3 := fun o i j z => by rw [e3]; simp only [sl_wr]; rw [if_neg (by omega)]
      have er : ∃ to', rp to v w = some to' ∧ ∀ u, to' u = up to v w u := by
        rcases (hu v hv.1 (by omega)).2 rfl with e | e
        · refine ⟨_, rp_new (by omega) e (fun u u0 u1 => ?_), fun _ => rfl⟩
          by_cases eu : u = v
          · rw [eu, e]; omega
          · exact (hu u u0 (by omega)).1 eu
        · refine ⟨_, rp_eq e, fun u => ?_⟩
          by_cases eu : u = v
          · rw [eu, up_s, e]
          · rw [up_o eu]
      obtain ⟨to', e1, e2⟩ := er
      refine hQ to' M3 e1 ⟨(hT.1.rp hv hw e1).1, fun u u0 u1 => ?_⟩ f3
      rw [e2 u]
      by_cases eu : u = v
      · rw [eu, up_s, e3, sl_wr_s]
      · rw [up_o eu, e3]; simp only [sl_wr]; rw [if_neg (by omega)]; exact hT.2 u u0 u1
    | succ n ih =>
      intro k hk k0 hu
      have tk' := hT.2 k k0 (by omega)
      have next : ((k ≠ v → to k ≠ w) ∧ (k = v → to v = -1 ∨ to v = w)) → sl_At l mX10_answersTo 2 [(0, vR 1 0), (1, vI v), (2, vI w), (3, vI (k + 1))] [] M Q := by
        intro h
        refine ih (k + 1) (by omega) (by omega) (fun u u0 u1 => ?_)
        by_cases e : u = k
        · rw [e]; exact h
        · exact hu u u0 (by omega)
      refine vX10_answersTo_2 fun _ _ _ _ => ⟨fun z => by omega, fun _ => ?_⟩
      rw [tk']
      refine ⟨fun z => ⟨by omega, fun z2 => ⟨by omega, next ⟨fun _ => z2, fun e => (z e).elim⟩⟩, fun z2 => ?_⟩, fun z => ⟨by omega, fun z2 => ⟨by omega, next ⟨fun e => (e (by omega)).elim, fun e => Or.inl (by rw [← e]; exact z2)⟩⟩, fun z2 => ⟨fun z3 => ⟨by omega, next ⟨fun e => (e (by omega)).elim, fun e => Or.inr (by rw [← e]; exact z3)⟩⟩, fun z3 => ?_⟩⟩⟩
      · have z2 : to k = w := by omega
        refine hN (rp_no (fun e => ?_) (fun q => q.2 k k0 (by omega) z2))
        exact z (hT.1.2 k v k0 (by omega) hv.1 hv.2 (by omega) (by omega))
      · have ek : k = v := by omega
        rw [ek] at z2 z3
        exact hN (rp_no z3 (fun q => z2 q.1))
  exact eX10_answersTo (vX10_answersTo_0 fun _ _ _ => loop 8 0 (by omega) (by omega) (fun u u0 u1 => by omega))
theorem kX10_areAlike (hw : WF T) (hR : TR (M 1 1) T) (h8 : ∀ t, 0 ≤ t → t < T 0 0 → (0 ≤ T 11 t ∧ T 11 t ≤ 12) ∧ N8 T t) {a b n : Int} (ha : 0 ≤ a) (hb : 0 ≤ b) (hn : 0 ≤ n) (han : a + n ≤ T 0 0) (hbn : b + n ≤ T 0 0) (hQ : ∀ to N, (∀ x, 0 ≤ x → x < n → shR T a b x) → nms T a b n.toNat 0 (fun _ => -1) = some to → Tr N to → FA50 M N → Q (some (vI 1)) N) (hN : (¬ ((∀ x, 0 ≤ x → x < n → shR T a b x) ∧ ∃ to, nms T a b n.toNat 0 (fun _ => -1) = some to)) → ∀ N, FA50 M N → Q (some (vI 0)) N) : sl_Runs l mX10_areAlike [vR 1 0, vI a, vI (a + n), vI b] M Q := by
  have n0 := hw.n0
  -- it has failed
  have fail : ∀ N, FA50 M N → ∀ x, 0 ≤ x → x ≤ n → (¬ ((∀ x, 0 ≤ x → x < n → shR T a b x) ∧ ∃ to, nms T a b n.toNat 0 (fun _ => -1) = some to)) → sl_At l mX10_areAlike 30 [(0, vR 1 0), (1, vI a), (2, vI (a + n)), (3, vI b), (4, vI 0), (5, vI (a + x))] [] N Q := by
    intro N hF x x0 x1 hno
    refine vX10_areAlike_30 fun _ _ _ _ _ _ => ⟨fun _ => ⟨Or.inl rfl, hN hno N hF⟩, fun _ => ⟨fun _ => ⟨Or.inl rfl, hN hno N hF⟩, fun z => (z rfl).elim⟩⟩
  have main : ∀ (m : Nat) (x : Int) (N : sl_M) (to : Int → Int), x + m = n → 0 ≤ x → FA50 M N → Tr N to → (∀ y, 0 ≤ y → y < x → shR T a b y) → nms T a b n.toNat 0 (fun _ => -1) = nms T a b m x to → sl_At l mX10_areAlike 30 [(0, vR 1 0), (1, vI a), (2, vI (a + n)), (3, vI b), (4, vI 1), (5, vI (a + x))] [] N Q := by
    intro m
    induction m with
    | zero =>
      intro x N to hx x0 hF hT hs he
      rw [nms] at he
      refine vX10_areAlike_30 fun _ _ _ _ _ _ => ⟨fun _ => ⟨Or.inr rfl, hQ to N (fun y y0 y1 => hs y y0 (by omega)) he hT hF⟩, fun z => by omega⟩
    | succ m ih =>
      intro x N to hx x0 hF hT hs he
      rw [nms] at he
      have er : ∀ q, N 1 1 q = M 1 1 q := fun q => hF 1 1 q (by omega)
      obtain ⟨a1, a3, a2, a4, a5, a6, a11, a12⟩ := hR (a + x) (by omega) (by omega)
      obtain ⟨b1, b3, b2, b4, b5, b6, b11, b12⟩ := hR (b + x) (by omega) (by omega)
      have c2 := (hR a ha (by omega)).2.2.1
      have la := (h8 (a + x) (by omega) (by omega))
      have lb := (h8 (b + x) (by omega) (by omega))
      have fa := hw.af (k := a + x) (by omega) (by omega)
      have fb := hw.af (k := b + x) (by omega) (by omega)
      refine vX10_areAlike_30 fun _ _ _ _ _ _ => ⟨fun z => by omega, fun _ => ⟨fun z => by omega, fun _ => ⟨by omega, fun y ey => ?_⟩⟩⟩
      have ey : y = b + x := by omega
      subst ey
      rw [er, er, er, er, er, er, er, er, er, er, er, er, a1, b1, a3, b3, a5, b5, a11, b11, a4, b4, a2, c2]
      refine ⟨by omega, by omega, fun _ => ⟨by omega, by omega, by omega, by omega, fun _ => ⟨by omega, by omega, fun _ => ⟨by omega, by omega⟩⟩⟩, fun y21 e21 => ⟨fun _ _ => ⟨by omega, by omega, fun _ => ⟨by omega, by omega⟩⟩, fun y30 e30 => ?_⟩⟩
      by_cases sh : shR T a b x
      · have e30 : y30 = 1 := by
          rw [e30, if_pos]
          obtain ⟨q1, q2, q3, q4, q5⟩ := sh
          refine ⟨⟨by omega, by omega, by omega, by omega⟩, ?_⟩
          rcases q5 with q5 | q5 | q5
          · exact Or.inl (by omega)
          · exact Or.inr (Or.inl q5)
          · exact Or.inr (Or.inr (fun w => w q5))
        subst e30
        have hs' : ∀ y, 0 ≤ y → y < x + 1 → shR T a b y := fun y y0 y1 => by
          by_cases e : y = x
          · rw [e]; exact sh
          · exact hs y y0 (by omega)
        have e11 : T 11 (a + x) = T 11 (b + x) := sh.2.2.2.1
        -- behind a name that does not fit
        have bad : nm1 T (a + x) (b + x) to = none → ¬ ((∀ x, 0 ≤ x → x < n → shR T a b x) ∧ ∃ to, nms T a b n.toNat 0 (fun _ => -1) = some to) := by
          intro z ⟨_, to', q⟩
          rw [he, z] at q
          cases q
        have end0 : nm1 T (a + x) (b + x) to = none → ∀ N', FA50 M N' → sl_At l mX10_areAlike 350 [(0, vR 1 0), (1, vI a), (2, vI (a + n)), (3, vI b), (4, vI 0), (5, vI (a + x)), (6, vI (b + x))] [] N' Q := by
          intro z N' hF'
          refine vX10_areAlike_350 fun _ _ _ _ _ _ _ => ⟨fun _ => ⟨by omega, ?_⟩, fun w => (w rfl).elim⟩
          have := fail N' hF' (x + 1) (by omega) (by omega) (bad z)
          rw [show a + (x + 1) = a + x + 1 by omega] at this
          exact this
        have sym : ∀ (k : Nat) (i : Int) (N' : sl_M) (to1 : Int → Int), i + k = T 11 (a + x) → 0 ≤ i → FA50 M N' → Tr N' to1 → nm1 T (a + x) (b + x) to = (sm T (a + x) (b + x) k i to1).bind (fun to' => if T 1 (a + x) = 0 then rp to' (T 6 (a + x)) (T 6 (b + x)) else some to') → sl_At l mX10_areAlike 222 [(0, vR 1 0), (1, vI a), (2, vI (a + n)), (3, vI b), (4, vI 1), (5, vI (a + x)), (6, vI (b + x)), (7, vI i)] [] N' Q := by
          intro k
          induction k with
          | zero =>
            intro i N' to1 hi i0 hF' hT' he'
            have er' : ∀ q, N' 1 1 q = M 1 1 q := fun q => hF' 1 1 q (by omega)
            rw [sm] at he'
            have he' : nm1 T (a + x) (b + x) to = (if T 1 (a + x) = 0 then rp to1 (T 6 (a + x)) (T 6 (b + x)) else some to1) := he'
            refine vX10_areAlike_222 fun _ _ _ _ _ _ _ _ => ⟨fun z => by omega, fun _ => ?_⟩
            rw [er', a11]
            refine ⟨by omega, fun _ => ?_, fun z => by omega⟩
            refine vX10_areAlike_350 fun _ _ _ _ _ _ _ => ⟨fun z => by omega, fun _ => ?_⟩
            rw [er', er', er', a1, a6, b6]
            refine ⟨by omega, fun z => ⟨by omega, ?_⟩, fun z => ⟨by omega, by omega, ?_⟩⟩
            · rw [if_neg z] at he'
              have := ih (x + 1) N' to1 (by omega) (by omega) hF' hT' hs' (by rw [he, he']; rfl)
              rw [show a + (x + 1) = a + x + 1 by omega] at this
              exact this
            · have z : T 1 (a + x) = 0 := by omega
              rw [if_pos z] at he'
              have zb : T 1 (b + x) = 0 := by have := sh.1; omega
              refine kX10_answersTo hT' (la.2 z) (lb.2 zb) (fun to' N2 e1 e2 e3 => ⟨_, rfl, fun y ey => ⟨by omega, ?_⟩⟩) (fun e1 => ⟨_, rfl, fun y ey => ⟨by omega, ?_⟩⟩)
              · rw [if_pos (by omega)] at ey
                subst ey
                have := ih (x + 1) N2 to' (by omega) (by omega) (hF'.tr e3) e2 hs' (by rw [he, he', e1]; rfl)
                rw [show a + (x + 1) = a + x + 1 by omega] at this
                exact this
              · rw [if_neg (by omega)] at ey
                subst ey
                have := fail N' hF' (x + 1) (by omega) (by omega) (bad (by rw [he', e1]))
                rw [show a + (x + 1) = a + x + 1 by omega] at this
                exact this
          | succ k ihk =>
            intro i N' to1 hi i0 hF' hT' he'
            have er' : ∀ q, N' 1 1 q = M 1 1 q := fun q => hF' 1 1 q (by omega)
            rw [sm] at he'
            -- a symbol that does not fit
            have no : nm1 T (a + x) (b + x) to = none → ∀ N2, FA50 M N2 → sl_At l mX10_areAlike 222 [(0, vR 1 0), (1, vI a), (2, vI (a + n)), (3, vI b), (4, vI 0), (5, vI (a + x)), (6, vI (b + x)), (7, vI (i + 1))] [] N2 Q := fun z N2 f2 => vX10_areAlike_222 fun _ _ _ _ _ _ _ _ => ⟨fun _ => end0 z N2 f2, fun w => (w rfl).elim⟩
            refine vX10_areAlike_222 fun _ _ _ _ _ _ _ _ => ⟨fun z => by omega, fun _ => ?_⟩
            rw [er', a11, er', er', a12 i i0 (by omega), b12 i i0 (by omega)]
            refine ⟨by omega, fun z => by omega, fun _ => ⟨by omega, by omega, fun z y ey => ⟨by omega, ?_⟩, fun z => ⟨fun z2 => ⟨by omega, ?_⟩, fun z2 => ⟨by omega, by omega, ?_⟩⟩⟩⟩
            · rw [if_neg (fun q => z q.1)] at he'
              by_cases d : T 12 (16 * (a + x) + i) = T 12 (16 * (b + x) + i)
              · rw [if_pos d] at he'
                rw [if_pos (by omega)] at ey
                subst ey
                exact ihk (i + 1) N' to1 (by omega) (by omega) hF' hT' he'
              · rw [if_neg d] at he'
                rw [if_neg (by omega)] at ey
                subst ey
                exact no he' N' hF'
            · rw [if_neg (fun q => z2 q.2), if_neg (by omega)] at he'
              exact no he' N' hF'
            · rw [if_pos ⟨z, z2⟩] at he'
              refine kX10_answersTo hT' (by omega) (by omega) (fun to' N2 e1 e2 e3 => ⟨_, rfl, fun y ey => ⟨by omega, ?_⟩⟩) (fun e1 => ⟨_, rfl, fun y ey => ⟨by omega, ?_⟩⟩)
              · rw [if_pos (by omega)] at ey
                subst ey
                exact ihk (i + 1) N2 to' (by omega) (by omega) (hF'.tr e3) e2 (by rw [he', e1]; rfl)
              · rw [if_neg (by omega)] at ey
                subst ey
                exact no (by rw [he', e1]; rfl) N' hF'
        exact sym (T 11 (a + x)).toNat 0 N to (by omega) (by omega) hF hT rfl
      · have e30 : y30 = 0 := by
          rw [e30, if_neg]
          rintro ⟨⟨q1, q2, q3, q4⟩, q5⟩
          refine sh ⟨by omega, by omega, by omega, by omega, ?_⟩
          rcases q5 with q5 | q5 | q5
          · exact Or.inl (by omega)
          · exact Or.inr (Or.inl q5)
          · exact Or.inr (Or.inr (by omega))
        subst e30
        have hno : ¬ ((∀ x, 0 ≤ x → x < n → shR T a b x) ∧ ∃ to, nms T a b n.toNat 0 (fun _ => -1) = some to) := fun q => sh (q.1 x x0 (by omega))
        refine vX10_areAlike_222 fun _ _ _ _ _ _ _ _ => ⟨fun _ => ?_, fun w => (w rfl).elim⟩
        refine vX10_areAlike_350 fun _ _ _ _ _ _ _ => ⟨fun _ => ⟨by omega, ?_⟩, fun w => (w rfl).elim⟩
        have := fail N hF (x + 1) (by omega) (by omega) hno
        rw [show a + (x + 1) = a + x + 1 by omega] at this
        exact this
  have init : ∀ (m : Nat) (x : Int) (N : sl_M), x + m = 8 → 0 ≤ x → FA50 M N → (∀ v, 0 ≤ v → v < x → N 1 50 v = -1) → sl_At l mX10_areAlike 3 [(0, vR 1 0), (1, vI a), (2, vI (a + n)), (3, vI b), (4, vI x)] [] N Q := by
    intro m
    induction m with
    | zero =>
      intro x N hx x0 hF hv
      refine vX10_areAlike_3 fun _ _ _ _ _ => ⟨fun _ => ?_, fun z => by omega⟩
      have := main n.toNat 0 N (fun _ => -1) (by omega) (by omega) hF ⟨Inj.none, fun v v0 v1 => hv v v0 (by omega)⟩ (fun y y0 y1 => by omega) rfl
      rw [Int.add_zero] at this
      exact this
    | succ m ih =>
      intro x N hx x0 hF hv
      refine vX10_areAlike_3 fun _ _ _ _ _ => ⟨fun z => by omega, fun _ => ⟨by omega, fun M3 e3 => ⟨by omega, ih (x + 1) M3 (by omega) (by omega) (fun o i j zz => by rw [e3]; simp only [sl_wr]; rw [if_neg (by omega)]; exact hF o i j zz) (fun v v0 v1 => ?_)⟩⟩⟩
      by_cases ev : v = x
      · rw [ev, e3, sl_wr_s]
      · rw [e3]; simp only [sl_wr]; rw [if_neg (by omega)]; exact hv v v0 (by omega)
  exact eX10_areAlike (vX10_areAlike_0 fun _ _ _ _ => init 8 0 M (by omega) (by omega) (fun _ _ _ _ => rfl) (fun v v0 v1 => by omega))
end K
