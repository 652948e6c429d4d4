def HV (P : Pg) (i j : Int) : Prop := ∃ v, v < 8 ∧ bt (sI P i j) v = true ∧ nS P i v
def HC (P : Pg) (i k : Int) : Prop := ∃ z, i ≤ z ∧ z < k ∧ P 1 z = 7
section K
variable {l : Launch} {M : sl_M} {Q : sl_R} {P : Pg}
theorem WS.keep {N N' : sl_M} {f t : Int} (h : WS N P f t) (h1 : N' 1 41 = N 1 41) (h2 : N' 1 42 = N 1 42) (h3 : N' 1 39 = N 1 39) (h4 : N' 1 0 33 = N 1 0 33) : WS N' P f t := by
  unfold WS at h ⊢
  rw [h1, h2, h3, h4]
  exact h
/-- the live rows of a span's exits -/
def L4 (N : sl_M) (P : Pg) (j : Int) : Prop := ∀ e, e4 e → m8 (N 1 40 (sp_place e)) ∧ ∀ v, v < 8 → (bt (N 1 40 (sp_place e)) v = true ↔ sL P j e v)
theorem L4.keep {N N' : sl_M} {j : Int} (h : L4 N P j) (h1 : N' 1 40 = N 1 40) : L4 N' P j := by
  unfold L4 at h ⊢
  rw [h1]
  exact h
theorem kX10_laysSpan (hw : WF P) (hL : LaF M P) (hR : PRf (M 1 1) P) (h22 : PR22 (M 1 1) P) {i j : Int} (hs : isp P i j) (hQ : ∀ N, SpR N P i j → FSp M N → Q none N) : sl_Runs l mX10_laysSpan [vR 1 0, vI i, vI j] M Q := by
  have hn := hw.n0
  have hr := hw.rgS hs
  have hs' := hs
  obtain ⟨s0, s1, s2, s3, s4⟩ := hs
  have aj := hw.af (k := j) (by omega) s2
  have hm : ∀ a x S, i ≤ a → a ≤ P 3 j - 1 → Ed P i (P 3 j - 1) a x S → m8 S := by
    intro a x S a1 a2 he
    rcases he with ⟨-, e, -⟩ | ⟨-, -, e, he, -, -, rfl⟩
    · rw [e]; exact m8_0
    · exact (h22 a (by omega) (by omega)).2.2.1 e he
  have hl : ∀ k, 0 ≤ k → k < P 0 0 → ∀ e, (e = 2 ∨ e = 4) → P 1 k ≠ 5 → P 1 k ≠ 6 → iand (P 20 k) e ≠ 0 → la P 0 40 (P 2 k) ≠ -1 := fun k k0 k1 => (hR k k0 k1).2.2.2.2.2
  -- plain forms of the rows
  have r17 : ∀ N, FSp M N → ∀ k, 0 ≤ k → k < P 0 0 → N 1 17 k = P 1 k ∧ N 1 20 k = P 3 k ∧ N 1 23 k = la P 0 40 (P 2 k) ∧ N 1 21 k = P 30 k ∧ N 1 22 k = P 31 k ∧ N 1 24 k = P 10 k := by
    intro N hf k k0 k1
    have a := (hf.laf hL).1.2.2 k k0 k1
    have b := (hf.laf hL).2.1 k k0 k1
    rw [Int.zero_add] at a b
    exact ⟨a.1, a.2.2.1, a.2.2.2.2, b⟩
  have rR : ∀ N, FSp M N → N 1 1 = M 1 1 := fun N hf => by funext y; exact hf 1 1 y (by omega)
  -- the last part
  have last : ∀ (n : Nat) (e as hc : Int) (N : sl_M), (e = 1 ∧ n = 4 ∨ e = 2 ∧ n = 3 ∨ e = 4 ∧ n = 2 ∨ e = 8 ∧ n = 1 ∨ e = 16 ∧ n = 0) → FSp M N → N 1 0 31 = i → N 1 0 32 = P 3 j → WS N P i (P 3 j - 1) → L4 N P j → m8 as → (∀ v, v < 8 → (bt as v = true ↔ ∃ z, i ≤ z ∧ z < P 3 j ∧ bt (P 22 z) v = true)) → (hc = 0 ↔ ¬ HC P i (P 3 j)) → m8 (N 1 0 35) → (∀ v, v < 8 → (bt (N 1 0 35) v = true ↔ ∃ q, q < e ∧ e4 q ∧ xE P i (P 3 j - 1) q ∧ bt as v = true ∧ sL P j q v)) → m8 (N 1 0 34) → (∀ v, v < 8 → (bt (N 1 0 34) v = true ↔ (Lv P i (P 3 j - 1) v i ∨ ∃ q, q < e ∧ e4 q ∧ xE P i (P 3 j - 1) q ∧ bt as v = true ∧ sL P j q v ∧ mU P i (P 3 j - 1) q v))) → sl_At l mX10_laysSpan 302 [(0, vR 1 0), (1, vI i), (4, vI as), (5, vI hc), (6, vI e)] [] N Q := by
    intro n
    induction n with
    | zero =>
      intro e as hc N he hf h31 h32 hWS h40 hma hba hhc hm5 hb5 hm4 hb4
      have hO : N 1 0 35 = sO P i j := by
        refine msk_eq hm5 (fun v hv => ?_)
        rw [hb5 v hv]
        constructor
        · rintro ⟨q, q1, q2, q3, q4, q5⟩; exact ⟨(hba v hv).mp q4, q, q2, q3, q5⟩
        · rintro ⟨z, q, q2, q3, q5⟩; exact ⟨q, by unfold e4 at q2; omega, q2, q3, (hba v hv).mpr z, q5⟩
      have hI : N 1 0 34 = sI P i j := by
        refine msk_eq hm4 (fun v hv => ?_)
        rw [hb4 v hv]
        constructor
        · rintro (z | ⟨q, q1, q2, q3, q4, q5, q6⟩)
          · exact Or.inl z
          · exact Or.inr ⟨q, q2, q3, (bt_msk hv).mpr ⟨(hba v hv).mp q4, q, q2, q3, q5⟩, q5, q6⟩
        · rintro (z | ⟨q, q2, q3, q4, q5, q6⟩)
          · exact Or.inl z
          · exact Or.inr ⟨q, by unfold e4 at q2; omega, q2, q3, (hba v hv).mpr ((bt_msk hv).mp q4).1, q5, q6⟩
      have fin : ∀ N', N' = sl_wr N 1 0 37 (sB P i j) → Q none N' := by
        intro N' eN
        refine hQ N' ⟨?_, ?_, ?_, ?_, ?_, ?_, fun e he => ⟨?_, ?_⟩⟩ (fun o a y z => ?_)
        · rw [eN]; simp [sl_wr]; exact h31
        · rw [eN]; simp [sl_wr]; exact h32
        · rw [eN]; simp [sl_wr]; exact hWS.2.1
        · rw [eN]; simp [sl_wr]; exact hI
        · rw [eN]; simp [sl_wr]; exact hO
        · rw [eN, sl_wr_s]
        · have : N' 1 40 = N 1 40 := by funext y; rw [eN]; simp [sl_wr]
          rw [this]; exact h40 e he
        · have : N' 1 39 = N 1 39 := by funext y; rw [eN]; simp [sl_wr]
          rw [this]; exact hWS.2.2 e he
        · rw [eN]; simp only [sl_wr]; rw [if_neg (by omega)]; exact hf o a y z
      have hsure : iand (N 1 0 34) (ixor (N 1 31 i) (-1)) = 0 ↔ ¬ HV P i j := by
        rw [hI]
        unfold HV
        have sS := (hf.laf hL).2.2.2.2.2 i (by omega) (by omega)
        have e31 : Sf N 0 i = N 1 31 i := by show N 1 31 (0 + i) = N 1 31 i; rw [Int.zero_add]
        rw [e31] at sS
        constructor
        · rintro z ⟨v, hv, v1, v2⟩
          have : bt (iand (sI P i j) (ixor (N 1 31 i) (-1))) v = true := by
            rw [bt_iand, v1, bt_not _ (by omega), (sS.2 v hv).mpr v2]; rfl
          rw [z, bt_0] at this; cases this
        · intro z
          refine m8_ext (m8_and (m8_msk _)) m8_0 (fun v hv => ?_)
          rw [bt_0, bt_iand, bt_not _ (by omega)]
          cases e1 : bt (sI P i j) v
          · rfl
          · cases e2 : bt (N 1 31 i) v
            · exact absurd ⟨v, hv, e1, (sS.2 v hv).mp e2⟩ z
            · rfl
      have three : (if iand (N 1 0 34) (ixor (N 1 31 i) (-1)) = 0 then (0 : Int) else 3) = cif (∃ v, v < 8 ∧ bt (sI P i j) v = true ∧ nS P i v) 3 0 := by
        by_cases c : iand (N 1 0 34) (ixor (N 1 31 i) (-1)) = 0
        · rw [if_pos c, cif0 (show ¬ ∃ v, v < 8 ∧ bt (sI P i j) v = true ∧ nS P i v from hsure.mp c)]
        · rw [if_neg c, cif1 (show ∃ v, v < 8 ∧ bt (sI P i j) v = true ∧ nS P i v from Classical.byContradiction fun z => c (hsure.mpr z))]
      refine vX10_laysSpan_302 fun _ _ _ _ _ => ⟨fun _ => kX10_sizeOf ⟨_, rfl, fun q => ⟨fun _ z => absurd rfl z, fun N' eN => fin N' ?_⟩, fun q => kX10_sizeOf ⟨_, rfl, fun y ey => ⟨fun _ _ => by omega, fun N' eN => fin N' ?_⟩⟩⟩, fun q => by omega⟩
      · rw [eN]
        congr 1
        unfold sB
        rw [hI] at q
        by_cases c : hc = 0
        · rw [if_pos c, cif0 (show ¬ ∃ k, i ≤ k ∧ k < P 3 j ∧ P 1 k = 7 from hhc.mp c), if_neg (fun z => z rfl), if_pos (Or.inl (by omega))]
        · rw [if_neg c, cif1 (show ∃ k, i ≤ k ∧ k < P 3 j ∧ P 1 k = 7 from Classical.byContradiction fun z => c (hhc.mpr z))]
      · rw [eN]
        congr 1
        unfold sB
        rw [hI] at q
        rw [hO, three]
        by_cases c : hc = 0
        · rw [if_pos c, cif0 (show ¬ ∃ k, i ≤ k ∧ k < P 3 j ∧ P 1 k = 7 from hhc.mp c)]
          by_cases c2 : 3 < (pcn (sO P i j) : Int)
          · rw [if_neg (fun z => z c2), if_pos (Or.inr (by omega))]
          · rw [if_pos c2, if_neg (show ¬ (4 < pcn (sI P i j) ∨ 3 < pcn (sO P i j)) by omega)]
        · rw [if_neg c, cif1 (show ∃ k, i ≤ k ∧ k < P 3 j ∧ P 1 k = 7 from Classical.byContradiction fun z => c (hhc.mpr z))]
    | succ n ih =>
      intro e as hc N he hf h31 h32 hWS h40 hma hba hhc hm5 hb5 hm4 hb4
      have he' : e4 e := by unfold e4; omega
      have ex : iand (N 1 0 33) e ≠ 0 ↔ xE P i (P 3 j - 1) e := by rw [hWS.2.1]; exact iand_sX he'
      refine vX10_laysSpan_302 fun _ _ _ _ _ => ⟨fun q => by omega, fun _ y ey => ⟨fun q => ⟨by omega, fun y2 ey2 => ?_⟩, fun q => ⟨by rw [ey]; exact sp_bd, fun N1 e1 N2 e2 => ⟨by omega, fun y2 ey2 => ?_⟩⟩⟩⟩
      · have nx : ¬ xE P i (P 3 j - 1) e := fun z => ex.mpr z q
        refine ih y2 as hc N (by omega) hf h31 h32 hWS h40 hma hba hhc hm5 (fun v hv => ?_) hm4 (fun v hv => ?_)
        · rw [hb5 v hv]
          constructor
          · rintro ⟨w, w1, w2⟩; exact ⟨w, by omega, w2⟩
          · rintro ⟨w, w1, w2, w3, w4⟩
            refine ⟨w, ?_, w2, w3, w4⟩
            by_cases c : w = e
            · subst c; exact absurd w3 nx
            · unfold e4 at w2; omega
        · rw [hb4 v hv]
          constructor
          · rintro (z | ⟨w, w1, w2⟩)
            · exact Or.inl z
            · exact Or.inr ⟨w, by omega, w2⟩
          · rintro (z | ⟨w, w1, w2, w3, w4⟩)
            · exact Or.inl z
            · refine Or.inr ⟨w, ?_, w2, w3, w4⟩
              by_cases c : w = e
              · subst c; exact absurd w3 nx
              · unfold e4 at w2; omega
      · have yx : xE P i (P 3 j - 1) e := ex.mp q
        subst ey
        obtain ⟨l1, l2⟩ := h40 e he'
        have g40 : N1 1 40 = N 1 40 := by funext y; rw [e1]; simp [sl_wr]
        have g39 : N1 1 39 = N 1 39 := by funext y; rw [e1]; simp [sl_wr]
        have g34 : N1 1 0 34 = N 1 0 34 := by rw [e1]; simp [sl_wr]
        rw [g40, g39, g34, hWS.2.2 e he', cif1 yx] at e2
        have k40 : N2 1 40 = N 1 40 := by rw [← g40]; funext y; rw [e2]; simp [sl_wr]
        have k39 : N2 1 39 = N 1 39 := by rw [← g39]; funext y; rw [e2]; simp [sl_wr]
        have k41 : N2 1 41 = N 1 41 := by funext y; rw [e2]; simp [sl_wr]; rw [e1]; simp [sl_wr]
        have k42 : N2 1 42 = N 1 42 := by funext y; rw [e2]; simp [sl_wr]; rw [e1]; simp [sl_wr]
        have k0 : ∀ y, y ≠ 34 → y ≠ 35 → N2 1 0 y = N 1 0 y := fun y a b => by rw [e2]; simp [sl_wr, a]; rw [e1]; simp [sl_wr, b]
        have k35 : N2 1 0 35 = ior (N 1 0 35) (iand as (N 1 40 (sp_place e))) := by rw [e2]; simp [sl_wr]; rw [e1, sl_wr_s]
        have k34 : N2 1 0 34 = ior (N 1 0 34) (iand (iand as (N 1 40 (sp_place e))) (ixor (msk fun v => ¬ mU P i (P 3 j - 1) e v) (-1))) := by rw [e2, sl_wr_s]
        have nm : ∀ v, v < 8 → (bt (ixor (msk fun v => ¬ mU P i (P 3 j - 1) e v) (-1)) v = true ↔ mU P i (P 3 j - 1) e v) := by
          intro v hv
          rw [bt_not _ (by omega), Bool.not_eq_true']
          constructor
          · intro z
            refine Classical.byContradiction fun w => ?_
            rw [(bt_msk hv).mpr w] at z; cases z
          · intro z
            cases e3 : bt (msk fun v => ¬ mU P i (P 3 j - 1) e v) v
            · rfl
            · exact absurd z ((bt_msk hv).mp e3)
        refine ih y2 as hc N2 (by omega) (fun o a y z => ?_) (by rw [k0 31 (by omega) (by omega)]; exact h31) (by rw [k0 32 (by omega) (by omega)]; exact h32) (hWS.keep k41 k42 k39 (k0 33 (by omega) (by omega))) (h40.keep k40) hma hba hhc (by rw [k35]; exact m8_or hm5 (m8_and hma)) (fun v hv => ?_) (by rw [k34]; exact m8_or hm4 (m8_and (m8_and hma))) (fun v hv => ?_)
        · rw [e2, e1]; simp only [sl_wr]; rw [if_neg (by omega), if_neg (by omega)]; exact hf o a y z
        · rw [k35, bt_ior, bt_iand, Bool.or_eq_true, Bool.and_eq_true, hb5 v hv, l2 v hv]
          constructor
          · rintro (⟨w, w1, w2⟩ | ⟨z1, z2⟩)
            · exact ⟨w, by omega, w2⟩
            · exact ⟨e, by omega, he', yx, z1, z2⟩
          · rintro ⟨w, w1, w2, w3, w4, w5⟩
            by_cases c : w = e
            · subst c; exact Or.inr ⟨w4, w5⟩
            · exact Or.inl ⟨w, by unfold e4 at w2; omega, w2, w3, w4, w5⟩
        · rw [k34, bt_ior, bt_iand, bt_iand, Bool.or_eq_true, Bool.and_eq_true, Bool.and_eq_true, hb4 v hv, l2 v hv, nm v hv]
          constructor
          · rintro ((z | ⟨w, w1, w2⟩) | ⟨⟨z1, z2⟩, z3⟩)
            · exact Or.inl z
            · exact Or.inr ⟨w, by omega, w2⟩
            · exact Or.inr ⟨e, by omega, he', yx, z1, z2, z3⟩
          · rintro (z | ⟨w, w1, w2, w3, w4, w5, w6⟩)
            · exact Or.inl (Or.inl z)
            · by_cases c : w = e
              · subst c; exact Or.inr ⟨⟨w4, w5⟩, w6⟩
              · exact Or.inl (Or.inr ⟨w, by unfold e4 at w2; omega, w2, w3, w4, w5, w6⟩)
  -- over the statements
  have scan : ∀ (n : Nat) (k as hc : Int) (N : sl_M), (P 3 j - k).toNat ≤ n → i ≤ k → k ≤ P 3 j → FSp M N → N 1 0 31 = i → N 1 0 32 = P 3 j → WS N P i (P 3 j - 1) → L4 N P j → m8 as → (∀ v, v < 8 → (bt as v = true ↔ ∃ z, i ≤ z ∧ z < k ∧ bt (P 22 z) v = true)) → (hc = 0 ∨ hc = 1) → (hc = 0 ↔ ¬ HC P i k) → m8 (N 1 0 34) → (∀ v, v < 8 → (bt (N 1 0 34) v = true ↔ ∃ z, i ≤ z ∧ z < k ∧ Rw P i (P 3 j - 1) (wV v) z ∧ bt (P 10 z) v = true)) → sl_At l mX10_laysSpan 120 [(0, vR 1 0), (1, vI i), (4, vI as), (5, vI hc), (6, vI k)] [] N Q := by
    have go : ∀ (as hc : Int) (N : sl_M), FSp M N → N 1 0 31 = i → N 1 0 32 = P 3 j → WS N P i (P 3 j - 1) → L4 N P j → m8 as → (∀ v, v < 8 → (bt as v = true ↔ ∃ z, i ≤ z ∧ z < P 3 j ∧ bt (P 22 z) v = true)) → (hc = 0 ↔ ¬ HC P i (P 3 j)) → m8 (N 1 0 34) → (∀ v, v < 8 → (bt (N 1 0 34) v = true ↔ ∃ z, i ≤ z ∧ z < P 3 j ∧ Rw P i (P 3 j - 1) (wV v) z ∧ bt (P 10 z) v = true)) → (∀ M2, M2 = sl_wr N 1 0 35 0 → sl_At l mX10_laysSpan 302 [(0, vR 1 0), (1, vI i), (4, vI as), (5, vI hc), (6, vI 1)] [] M2 Q) := by
      intro as hc N hf h31 h32 hWS h40 hma hba hhc hm4 hb4 N2 e2
      have k40 : N2 1 40 = N 1 40 := by funext y; rw [e2]; simp [sl_wr]
      have k39 : N2 1 39 = N 1 39 := by funext y; rw [e2]; simp [sl_wr]
      have k41 : N2 1 41 = N 1 41 := by funext y; rw [e2]; simp [sl_wr]
      have k42 : N2 1 42 = N 1 42 := by funext y; rw [e2]; simp [sl_wr]
      have k0 : ∀ y, y ≠ 35 → N2 1 0 y = N 1 0 y := fun y b => by rw [e2]; simp [sl_wr, b]
      refine last 4 1 as hc N2 (by omega) (fun o a y z => ?_) (by rw [k0 31 (by omega)]; exact h31) (by rw [k0 32 (by omega)]; exact h32) (hWS.keep k41 k42 k39 (k0 33 (by omega))) (h40.keep k40) hma hba hhc (by rw [e2, sl_wr_s]; exact m8_0) (fun v hv => ?_) (by rw [k0 34 (by omega)]; exact hm4) (fun v hv => ?_)
      · rw [e2]; simp only [sl_wr]; rw [if_neg (by omega)]; exact hf o a y z
      · rw [e2, sl_wr_s, bt_0]
        constructor
        · intro z; cases z
        · rintro ⟨w, w1, w2, -⟩; unfold e4 at w2; omega
      · rw [k0 34 (by omega), hb4 v hv, Lv_iff hw hr]
        constructor
        · rintro ⟨z, z1, z2, z3⟩; exact Or.inl ⟨z, z1, by omega, z3⟩
        · rintro (⟨z, z1, z2, z3⟩ | ⟨w, w1, w2, -⟩)
          · exact ⟨z, z1, by omega, z3⟩
          · unfold e4 at w2; omega
    intro n
    induction n with
    | zero =>
      intro k as hc N h1 h2 h3 hf h31 h32 hWS h40 hma hba hc01 hhc hm4 hb4
      have : k = P 3 j := by omega
      subst this
      refine vX10_laysSpan_120 fun _ _ _ _ _ => ⟨fun _ => go as hc N hf h31 h32 hWS h40 hma hba hhc hm4 hb4, fun q => by omega⟩
    | succ n ih =>
      intro k as hc N h1 h2 h3 hf h31 h32 hWS h40 hma hba hc01 hhc hm4 hb4
      refine vX10_laysSpan_120 fun _ _ _ _ _ => ⟨fun q => ?_, fun q => ⟨fun _ => by omega, fun y ey => ⟨by omega, ?_⟩⟩⟩
      · have : k = P 3 j := by omega
        subst this
        exact go as hc N hf h31 h32 hWS h40 hma hba hhc hm4 hb4
      · have hk : 0 ≤ k ∧ k < P 0 0 := by omega
        obtain ⟨t1, t2, t3, t4, t5, t6⟩ := r17 N hf k hk.1 hk.2
        obtain ⟨g1, g2, g3, g4⟩ := h22 k hk.1 hk.2
        obtain ⟨p1, p2, p3, -⟩ := hR k hk.1 hk.2
        have J : sl_At l mX10_laysSpan 220 [(0, vR 1 0), (1, vI i), (4, vI as), (5, vI y), (6, vI k)] [vI (P 22 k)] N Q := by
          refine vX10_laysSpan_220 (m8_rg g1) fun _ _ _ _ _ y1 ey1 => ⟨by omega, fun N1 e1 => ⟨by omega, fun N2 e2 => ⟨by omega, ?_⟩⟩⟩
          have a24 : N1 1 24 k = P 10 k := by rw [e1]; simp [sl_wr]; exact t6
          have a41 : N1 1 41 = N 1 41 := by funext z; rw [e1]; simp [sl_wr]
          have a42 : N1 1 42 = N 1 42 := by funext z; rw [e1]; simp [sl_wr]
          have a34 : N1 1 0 34 = N 1 0 34 := by rw [e1]; simp [sl_wr]
          rw [a24, a41, a42, a34] at e2
          have k40 : N2 1 40 = N 1 40 := by funext z; rw [e2]; simp [sl_wr]; rw [e1]; simp [sl_wr]
          have k39 : N2 1 39 = N 1 39 := by funext z; rw [e2]; simp [sl_wr]; rw [e1]; simp [sl_wr]
          have k41 : N2 1 41 = N 1 41 := by rw [← a41]; funext z; rw [e2]; simp [sl_wr]
          have k42 : N2 1 42 = N 1 42 := by rw [← a42]; funext z; rw [e2]; simp [sl_wr]
          have k0 : ∀ z, z ≠ 34 → z ≠ 36 → N2 1 0 z = N 1 0 z := fun z a b => by rw [e2]; simp [sl_wr, a]; rw [e1]; simp [sl_wr, b]
          have k34 : N2 1 0 34 = ior (N 1 0 34) (if N 1 41 k = 0 then 0 else iand (P 10 k) (ixor (N 1 42 k) (-1))) := by rw [e2, sl_wr_s]
          have bit : ∀ v, v < 8 → (bt (if N 1 41 k = 0 then 0 else iand (P 10 k) (ixor (N 1 42 k) (-1))) v = true ↔ (Rw P i (P 3 j - 1) (wV v) k ∧ bt (P 10 k) v = true)) := by
            intro v hv
            rcases hWS.1 k h2 (by omega) with ⟨z1, z2⟩ | ⟨z1, z2, z3, z4⟩
            · rw [if_pos z1, bt_0]
              refine ⟨fun z => (by cases z), fun z => ?_⟩
              exact absurd (fun T b s => z.1 T b (fun a x S a1 a2 a3 a4 a5 _ => s a x S a1 a2 a3 a4 a5 trivial)) z2
            · rw [if_neg (by omega), bt_iand, bt_not _ (by omega), Bool.and_eq_true, Bool.not_eq_true', z4 v hv]
              exact ⟨fun z => ⟨z.2, z.1⟩, fun z => ⟨z.2, z.1⟩⟩
          have mb : m8 (if N 1 41 k = 0 then 0 else iand (P 10 k) (ixor (N 1 42 k) (-1))) := by
            split
            · exact m8_0
            · exact m8_and g2
          refine ih (k + 1) y1 y N2 (by omega) (by omega) (by omega) (fun o a z w => ?_) (by rw [k0 31 (by omega) (by omega)]; exact h31) (by rw [k0 32 (by omega) (by omega)]; exact h32) (hWS.keep k41 k42 k39 (k0 33 (by omega) (by omega))) (h40.keep k40) (by rw [ey1]; exact m8_or hma g1) (fun v hv => ?_) (by rw [ey]; exact b_01) ?_ (by rw [k34]; exact m8_or hm4 mb) (fun v hv => ?_)
          · rw [e2, e1]; simp only [sl_wr]; rw [if_neg (by omega), if_neg (by omega)]; exact hf o a z w
          · rw [ey1, bt_ior, Bool.or_eq_true, hba v hv]
            constructor
            · rintro (⟨z, z1, z2, z3⟩ | z)
              · exact ⟨z, z1, by omega, z3⟩
              · exact ⟨k, h2, by omega, z⟩
            · rintro ⟨z, z1, z2, z3⟩
              by_cases c : z = k
              · subst c; exact Or.inr z3
              · exact Or.inl ⟨z, z1, by omega, z3⟩
          · rw [ey, b_eq0, t1]
            constructor
            · rintro z ⟨w, w1, w2, w3⟩
              by_cases c : w = k
              · subst c; exact z (Or.inr (fun u => u w3))
              · refine z (Or.inl (fun u => hhc.mp u ⟨w, w1, by omega, w3⟩))
            · rintro z (w | w)
              · exact w (hhc.mpr (fun ⟨u, u1, u2, u3⟩ => z ⟨u, u1, by omega, u3⟩))
              · exact w (fun u => z ⟨k, h2, by omega, u⟩)
          · rw [k34, bt_ior, Bool.or_eq_true, hb4 v hv, bit v hv]
            constructor
            · rintro (⟨z, z1, z2, z3⟩ | z)
              · exact ⟨z, z1, by omega, z3⟩
              · exact ⟨k, h2, by omega, z⟩
            · rintro ⟨z, z1, z2, z3⟩
              by_cases c : z = k
              · subst c; exact Or.inr z3
              · exact Or.inl ⟨z, z1, by omega, z3⟩
        rw [t1, t5, t4, rR N hf]
        refine ⟨fun z => ⟨fun z2 => ?_, fun z2 => ?_⟩, fun z => ?_⟩
        · rw [if_neg z2, if_neg z] at g4
          rw [g4] at J; exact J
        · have z7 : P 1 k = 7 := by omega
          have := (p3 z7).1
          rw [if_pos z7] at g4
          refine ⟨by omega, kX10_listSet ⟨_, rfl, ?_⟩⟩
          rw [← g4]; exact J
        · have z0 : P 1 k = 0 := by omega
          rw [if_neg (by omega), if_pos z0] at g4
          refine ⟨by omega, ?_⟩
          rw [← g4]; exact J
  -- from the entry
  have hL23 : la P 0 40 (P 2 i) = la P 0 40 (P 2 j) := by rw [s3]
  refine eX10_laysSpan (vX10_laysSpan_0 fun _ _ _ N1 e1 => ⟨by omega, fun N3 e3 => ?_⟩)
  have f1 : FSp M N1 := fun o a y z => by rw [e1]; simp only [sl_wr]; rw [if_neg (by omega)]
  rw [(r17 N1 f1 j (by omega) s2).2.1] at e3
  have f3 : FSp M N3 := f1.tr (fun o a y z => by rw [e3]; simp only [sl_wr]; rw [if_neg (by omega)])
  have hL3 := f3.laf hL
  refine kX10_walksSpan hw hs' (by rw [e3]; simp [sl_wr]; rw [e1, sl_wr_s]) (by rw [e3, sl_wr_s]) hL3.2.2.1 hl hm (fun N4 hWS hfw => ⟨rfl, by omega, ?_⟩)
  have f4 : FSp M N4 := f3.tr hfw.sp
  have hL4 := f4.laf hL
  have h431 : N4 1 0 31 = i := by rw [hfw 1 0 31 (by omega), e3]; simp [sl_wr]; rw [e1, sl_wr_s]
  have h432 : N4 1 0 32 = P 3 j := by rw [hfw 1 0 32 (by omega), e3, sl_wr_s]
  have bj := bh_rng hw (f := 0) (t := P 0 0 - 1) (by omega) (by omega) 40 j (by omega) s2
  have pj := hw.pr (k := j) (by omega) s2
  have lj := la_rng hw (f := 0) (by omega) 40 (P 2 j) (by omega)
  -- live at a target
  have lvAt : ∀ N, FSp M N → ∀ x, (x = -1 ∨ (0 ≤ x ∧ x < P 0 0)) → m8 (N 1 30 (tN P x)) ∧ ∀ v, v < 8 → (bt (N 1 30 (tN P x)) v = true ↔ (0 ≤ x ∧ Lv P 0 (P 0 0 - 1) v x)) := by
    intro N hf x hx
    have hLn := hf.laf hL
    rcases hx with hx | hx
    · have : tN P x = P 0 0 := by unfold tN; rw [if_pos (by omega)]
      rw [this, hLn.2.2.2.2.1]
      refine ⟨m8_0, fun v hv => ⟨fun z => (by rw [bt_0] at z; cases z), fun z => by omega⟩⟩
    · have : tN P x = x := by unfold tN; rw [if_neg (by omega)]
      rw [this]
      have := hLn.2.2.2.1 (by omega) x (by omega) (by omega)
      rw [show Lf N 0 x = N 1 30 x by show N 1 30 (0 + x) = N 1 30 x; rw [Int.zero_add]] at this
      exact ⟨this.1, fun v hv => (this.2 v hv).trans ⟨fun z => ⟨by omega, z⟩, fun z => z.2⟩⟩
  have t1 : tg P 0 (P 0 0 - 1) j 1 = bh P 0 (P 0 0 - 1) 40 j := by unfold tg; rw [if_pos rfl]
  have t8 : tg P 0 (P 0 0 - 1) j 8 = -8 := by unfold tg; rw [if_neg (by omega), if_pos (Or.inl rfl)]
  -- behind the rows of the exits
  have J : ∀ (s2' : Int) (N : sl_M), FSp M N → N 1 0 31 = i → N 1 0 32 = P 3 j → WS N P i (P 3 j - 1) → (m8 (N 1 40 0) ∧ ∀ v, v < 8 → (bt (N 1 40 0) v = true ↔ sL P j 1 v)) → (m8 s2' ∧ ∀ v, v < 8 → (bt s2' v = true ↔ sL P j 2 v)) → sl_At l mX10_laysSpan 69 [(0, vR 1 0), (1, vI i), (3, vI (la P 0 40 (P 2 j)))] [vI s2', vI 1, vR 1 40] N Q := by
    intro s2' N hf h31 h32 hWS q1 q2
    refine vX10_laysSpan_69 (by omega) (m8_rg q2.1) fun _ _ _ => ⟨by omega, fun Na ea => ⟨fun z => by omega, fun Nb eb Nc ec Nd ed Ne ee => ?_⟩⟩
    have fa : FSp M Na := hf.tr (fun o a y z => by rw [ea]; simp only [sl_wr]; rw [if_neg (by omega)])
    have q4 : m8 (if la P 0 40 (P 2 j) ≠ -1 then Na 1 30 (la P 0 40 (P 2 j)) else 0) ∧ ∀ v, v < 8 → (bt (if la P 0 40 (P 2 j) ≠ -1 then Na 1 30 (la P 0 40 (P 2 j)) else 0) v = true ↔ sL P j 4 v) := by
      by_cases c : la P 0 40 (P 2 j) ≠ -1
      · rw [if_pos c]
        have t4 : tg P 0 (P 0 0 - 1) j 4 = la P 0 40 (P 2 j) := by unfold tg; rw [if_neg (by omega), if_neg (by omega), if_neg (by omega)]
        have := lvAt Na fa (la P 0 40 (P 2 j)) (by omega)
        rw [show tN P (la P 0 40 (P 2 j)) = la P 0 40 (P 2 j) by unfold tN; rw [if_neg (by omega)]] at this
        unfold sL
        rw [t4]
        exact this
      · rw [if_neg c]
        have t4 : tg P 0 (P 0 0 - 1) j 4 = -4 := by unfold tg; rw [if_neg (by omega), if_pos (by omega)]
        refine ⟨m8_0, fun v hv => ⟨fun z => (by rw [bt_0] at z; cases z), fun z => ?_⟩⟩
        unfold sL at z
        rw [t4] at z
        omega
    have fe : FSp M Ne := fa.tr (fun o a y z => by rw [ee, ed, ec, eb]; simp only [sl_wr]; rw [if_neg (by omega), if_neg (by omega), if_neg (by omega), if_neg (by omega)])
    have z0 : ∀ y, y ≠ 34 → y ≠ 36 → Ne 1 0 y = N 1 0 y := fun y a b => by rw [ee, ed, ec, eb, ea]; simp [sl_wr, a, b]
    have z40 : Ne 1 40 = Nc 1 40 := by funext y; rw [ee, ed]; simp [sl_wr]
    have v0 : Ne 1 40 0 = N 1 40 0 := by rw [z40, ec, eb, ea]; simp [sl_wr]
    have v1 : Ne 1 40 1 = s2' := by rw [z40, ec, eb, ea]; simp [sl_wr]
    have v2 : Ne 1 40 2 = (if la P 0 40 (P 2 j) ≠ -1 then Na 1 30 (la P 0 40 (P 2 j)) else 0) := by rw [z40, ec, eb]; simp [sl_wr]
    have v3 : Ne 1 40 3 = 0 := by rw [z40, ec]; simp [sl_wr]
    have z41 : Ne 1 41 = N 1 41 := by funext y; rw [ee, ed, ec, eb, ea]; simp [sl_wr]
    have z42 : Ne 1 42 = N 1 42 := by funext y; rw [ee, ed, ec, eb, ea]; simp [sl_wr]
    have z39 : Ne 1 39 = N 1 39 := by funext y; rw [ee, ed, ec, eb, ea]; simp [sl_wr]
    have z34 : Ne 1 0 34 = 0 := by rw [ee, ed]; simp [sl_wr]
    rw [show Ne 1 0 31 = i by rw [z0 31 (by omega) (by omega)]; exact h31]
    refine scan (P 3 j - i).toNat i 0 0 Ne (Nat.le_refl _) (Int.le_refl _) (by omega) fe (by rw [z0 31 (by omega) (by omega)]; exact h31) (by rw [z0 32 (by omega) (by omega)]; exact h32) (hWS.keep z41 z42 z39 (z0 33 (by omega) (by omega))) (fun e he => ?_) m8_0 (fun v hv => ?_) (Or.inl rfl) ⟨fun _ ⟨z, z1, z2, _⟩ => by omega, fun _ => rfl⟩ (by rw [z34]; exact m8_0) (fun v hv => ?_)
    · rcases he with rfl | rfl | rfl | rfl
      · rw [show sp_place 1 = 0 from rfl, v0]; exact q1
      · rw [show sp_place 2 = 1 from rfl, v1]; exact q2
      · rw [show sp_place 4 = 2 from rfl, v2]; exact q4
      · rw [show sp_place 8 = 3 from rfl, v3]
        refine ⟨m8_0, fun v hv => ⟨fun z => (by rw [bt_0] at z; cases z), fun z => ?_⟩⟩
        unfold sL at z
        rw [t8] at z
        omega
    · rw [bt_0]
      exact ⟨fun z => (by cases z), fun ⟨z, z1, z2, _⟩ => by omega⟩
    · rw [z34, bt_0]
      exact ⟨fun z => (by cases z), fun ⟨z, z1, z2, _⟩ => by omega⟩
  refine kX10_behind hw hL4.1 (by omega) ⟨_, rfl, ?_⟩
  have tb := tN_rng (P := P) (x := bh P 0 (P 0 0 - 1) 40 j) (by omega) hn.1
  refine ⟨by omega, fun N9 e9 => ?_⟩
  have f9 : FSp M N9 := f4.tr (fun o a y z => by rw [e9]; simp only [sl_wr]; rw [if_neg (by omega)])
  have w9 : WS N9 P i (P 3 j - 1) := hWS.keep (by funext y; rw [e9]; simp [sl_wr]) (by funext y; rw [e9]; simp [sl_wr]) (by funext y; rw [e9]; simp [sl_wr]) (by rw [e9]; simp [sl_wr])
  have z31 : N9 1 0 31 = i := by rw [e9]; simp [sl_wr]; exact h431
  have z32 : N9 1 0 32 = P 3 j := by rw [e9]; simp [sl_wr]; exact h432
  have q1 : m8 (N9 1 40 0) ∧ ∀ v, v < 8 → (bt (N9 1 40 0) v = true ↔ sL P j 1 v) := by
    rw [e9, sl_wr_s]
    unfold sL
    rw [t1]
    exact lvAt N4 f4 _ (by omega)
  rw [(r17 N4 f4 i s0 (by omega)).2.2.1, hL23]
  refine ⟨fun z => ?_, fun z => ?_⟩
  · have bl := bh_rng hw (f := 0) (t := P 0 0 - 1) (by omega) (by omega) 40 (la P 0 40 (P 2 j)) (by omega) (by omega)
    refine kX10_behind hw (f9.laf hL).1 (by omega) ⟨_, rfl, ?_⟩
    have tb2 := tN_rng (P := P) (x := bh P 0 (P 0 0 - 1) 40 (la P 0 40 (P 2 j))) (by omega) hn.1
    refine ⟨by omega, J _ N9 f9 z31 z32 w9 q1 ?_⟩
    have t2 : tg P 0 (P 0 0 - 1) j 2 = bh P 0 (P 0 0 - 1) 40 (la P 0 40 (P 2 j)) := by unfold tg; rw [if_neg (by omega), if_neg (by omega), if_pos rfl]
    unfold sL
    rw [t2]
    exact lvAt N9 f9 _ (by omega)
  · have t2 : tg P 0 (P 0 0 - 1) j 2 = -2 := by unfold tg; rw [if_neg (by omega), if_pos (by omega)]
    refine J 0 N9 f9 z31 z32 w9 q1 ⟨m8_0, fun v hv => ⟨fun w => (by rw [bt_0] at w; cases w), fun w => ?_⟩⟩
    unfold sL at w
    rw [t2] at w
    omega
end K
