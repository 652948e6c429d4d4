/-! Flow: a span is examined -/
section K
variable {l : Launch} {M : sl_M} {Q : sl_R} {s : Nat} {P : Pg}
theorem pX_bd {b1 b2 b4 b8 e : Int} (h1 : 0 ≤ b1 ∧ b1 ≤ 1) (h2 : 0 ≤ b2 ∧ b2 ≤ 1) (h4 : 0 ≤ b4 ∧ b4 ≤ 1) (h8 : 0 ≤ b8 ∧ b8 ≤ 1) (he : e4 e) : 0 ≤ pX b1 b2 b4 b8 e ∧ pX b1 b2 b4 b8 e < e := by
  unfold pX
  rcases he with rfl | rfl | rfl | rfl <;> simp <;> omega
theorem bt_sLv {f t j e : Int} {v : Nat} (hv : v < 8) : bt (sLv P f t j e) v = true ↔ (xE P f t e ∧ sL P j e v) := by
  unfold sLv
  by_cases c : xE P f t e
  · rw [cif1 c, bt_msk hv]; exact ⟨fun q => ⟨c, q⟩, fun q => q.2⟩
  · rw [cif0 c, bt_0]; exact ⟨fun q => (by cases q), fun q => absurd q.1 c⟩
theorem m8_sLv {f t j e : Int} : m8 (sLv P f t j e) := by
  unfold sLv
  by_cases c : xE P f t e
  · rw [cif1 c]; exact m8_msk _
  · rw [cif0 c]; exact m8_0
theorem bt_nA {f t e : Int} {v : Nat} (hv : v < 8) : bt (ixor (sA P f t e) (-1)) v = true ↔ (xE P f t e ∧ mU P f t e v) := by
  rw [bt_not _ (by omega)]
  unfold sA
  by_cases c : xE P f t e
  · rw [cif1 c, Bool.not_eq_true']
    constructor
    · intro q
      refine ⟨c, Classical.byContradiction fun z => ?_⟩
      rw [(bt_msk hv).mpr z] at q; cases q
    · rintro ⟨-, q⟩
      cases e1 : bt (msk fun v => ¬ mU P f t e v) v
      · rfl
      · exact absurd q ((bt_msk hv).mp e1)
  · rw [cif0 c, bt_m1 (by omega)]; exact ⟨fun q => (by cases q), fun q => absurd q.1 c⟩
theorem kX1_examine (hw : WF P) (hF : StF M s P) (hd : Sd M s P) {o : Nat} (ho : o = 7 ∨ o = 9) {i j : Int} (hs : isp P i j) (hQ : ∀ N, SpM N o P i j → Sd N s P → (∀ o' a b, o' ≠ o → ¬ (o' = 6 ∧ (a = 5 ∨ a = 6)) → N o' a b = M o' a b) → Q none N) : sl_Runs l mX1_examine [vR 6 0, vR o 0, vI i, vI j] M Q := by
  have hn := hw.n0
  have hs' := hs
  obtain ⟨s0, s1, s2, s3, s4⟩ := hs
  have aj := hw.af (k := j) (by omega) s2
  have hr := hw.rgS hs'
  have hrA := hw.rgA (by omega)
  have hc6 : sl_cls o = 6 := by rcases ho with rfl | rfl <;> rfl
  have n6 : (6 : Nat) ≠ o := by omega
  have nst : ∀ o', StO s o' → o' ≠ o := fun o' h => by have := StO_ne hF.1 h; omega
  have hp := cl_prog hF.1
  -- the frame along the way
  have keepF : ∀ N : sl_M, (∀ o' a b, o' ≠ o → ¬ (o' = 6 ∧ (a = 5 ∨ a = 6)) → N o' a b = M o' a b) → StF N s P ∧ Sd N s P := by
    intro N h
    refine ⟨hF.frame hw (fun o' a b h1 => h o' a b (nst o' h1) (fun z => by have := StO_ne hF.1 h1; omega)), by rw [h 6 0 0 n6 (by omega)]; exact hd.1, fun z => ?_⟩
    have r3 : N 6 3 = M 6 3 := by funext q; exact h 6 3 q n6 (by omega)
    have r4 : N 6 4 = M 6 4 := by funext q; exact h 6 4 q n6 (by omega)
    rw [r3, r4]; exact hd.2 z
  -- the last part: inputs by exits, then the reason
  have last : ∀ (n : Nat) (e : Int) (N : sl_M), (e = 1 ∧ n = 4 ∨ e = 2 ∧ n = 3 ∨ e = 4 ∧ n = 2 ∨ e = 8 ∧ n = 1 ∨ e = 16 ∧ n = 0) → (∀ o' a b, o' ≠ o → ¬ (o' = 6 ∧ (a = 5 ∨ a = 6)) → N o' a b = M o' a b) → N o 0 0 = i → N o 0 1 = j → N o 0 2 = P 3 j - 1 → N o 0 3 = sX P i (P 3 j - 1) → N o 0 5 = sO P i j → (∀ e, e4 e → N o 8 e = sLv P i (P 3 j - 1) j e ∧ N o 9 e = sA P i (P 3 j - 1) e) → m8 (N o 0 4) → (∀ v, v < 8 → (bt (N o 0 4) v = true ↔ (Lv P i (P 3 j - 1) v i ∨ ∃ q, q < e ∧ e4 q ∧ xE P i (P 3 j - 1) q ∧ bt (sO P i j) v = true ∧ sL P j q v ∧ mU P i (P 3 j - 1) q v))) → sl_At l mX1_examine 244 [(0, vR 6 0), (1, vR o 0), (7, vI e)] [] N Q := by
    intro n
    induction n with
    | zero =>
      intro e N he hout h0 h1 h2 h3 h5 h8 hm hb
      refine vX1_examine_244 hc6 fun _ _ => ⟨fun _ => ?_, fun q => by omega⟩
      have hI : N o 0 4 = sI P i j := by
        refine msk_eq hm (fun v hv => ?_)
        rw [hb v hv]
        constructor
        · rintro (z | ⟨q, q1, q2, q3⟩)
          · exact Or.inl z
          · exact Or.inr ⟨q, q2, q3⟩
        · rintro (z | ⟨q, q2, q3⟩)
          · exact Or.inl z
          · exact Or.inr ⟨q, by unfold e4 at q2; omega, q2, q3⟩
      obtain ⟨kF, kD⟩ := keepF N hout
      refine kX1_reason hw kF kD hc6 hs' h0 h2 hI h5 ⟨_, rfl, fun N' eN => ?_⟩
      have hout' : ∀ o' a b, o' ≠ o → ¬ (o' = 6 ∧ (a = 5 ∨ a = 6)) → N' o' a b = M o' a b := fun o' a b h1 h2 => by rw [eN, sl_wr_o o' a b (fun z => h1 (by cases z; rfl))]; exact hout o' a b h1 h2
      refine hQ N' ⟨?_, ?_, ?_, ?_, ?_, ?_, ?_, fun e he => ⟨?_, ?_⟩⟩ (keepF N' hout').2 hout'
      · rw [eN]; simp [sl_wr]; exact h0
      · rw [eN]; simp [sl_wr]; exact h1
      · rw [eN]; simp [sl_wr]; exact h2
      · rw [eN]; simp [sl_wr]; exact h3
      · rw [eN]; simp [sl_wr]; exact hI
      · rw [eN]; simp [sl_wr]; exact h5
      · rw [eN]; exact sl_wr_s
      · rw [eN]; simp [sl_wr]; exact (h8 e he).1
      · rw [eN]; simp [sl_wr]; exact (h8 e he).2
    | succ n ih =>
      intro e N he hout h0 h1 h2 h3 h5 h8 hm hb
      have he' : e4 e := by unfold e4; omega
      obtain ⟨g8, g9⟩ := h8 e he'
      refine vX1_examine_244 hc6 fun _ _ => ⟨fun q => by omega, fun _ => ⟨by omega, fun N' eN => ⟨by omega, fun y ey => ?_⟩⟩⟩
      rw [g8, g9, h5] at eN
      have mi : m8 (sO P i j) := m8_msk _
      have e4' : N' o 0 4 = ior (N o 0 4) (iand (iand (sO P i j) (sLv P i (P 3 j - 1) j e)) (ixor (sA P i (P 3 j - 1) e) (-1))) := by rw [eN]; exact sl_wr_s
      refine ih y N' (by omega) (fun o' a b h1 h2 => by rw [eN, sl_wr_o o' a b (fun z => h1 (by cases z; rfl))]; exact hout o' a b h1 h2) ?_ ?_ ?_ ?_ ?_ (fun e he => ⟨?_, ?_⟩) (by rw [e4']; exact m8_or hm (m8_and (m8_and mi))) (fun v hv => ?_)
      · rw [eN]; simp [sl_wr]; exact h0
      · rw [eN]; simp [sl_wr]; exact h1
      · rw [eN]; simp [sl_wr]; exact h2
      · rw [eN]; simp [sl_wr]; exact h3
      · rw [eN]; simp [sl_wr]; exact h5
      · rw [eN]; simp [sl_wr]; exact (h8 e he).1
      · rw [eN]; simp [sl_wr]; exact (h8 e he).2
      · rw [e4', bt_ior, bt_iand, bt_iand, Bool.or_eq_true, Bool.and_eq_true, Bool.and_eq_true, hb v hv, bt_sLv hv, bt_nA hv]
        constructor
        · rintro ((z | ⟨q, q1, q2⟩) | ⟨⟨z1, z2⟩, z3⟩)
          · exact Or.inl z
          · exact Or.inr ⟨q, by omega, q2⟩
          · exact Or.inr ⟨e, by omega, he', z2.1, z1, z2.2, z3.2⟩
        · rintro (z | ⟨q, q1, q2, q3, q4, q5, q6⟩)
          · exact Or.inl (Or.inl z)
          · by_cases c : q = e
            · subst c; exact Or.inr ⟨⟨q4, q3, q5⟩, q3, q6⟩
            · exact Or.inl (Or.inr ⟨q, by unfold e4 at q2; omega, q2, q3, q4, q5, q6⟩)
  -- outputs
  have outs : ∀ (n : Nat) (k r : Int) (N : sl_M), (P 3 j - k).toNat ≤ n → i ≤ k → k ≤ P 3 j → (∀ o' a b, o' ≠ o → ¬ (o' = 6 ∧ (a = 5 ∨ a = 6)) → N o' a b = M o' a b) → N o 0 0 = i → N o 0 1 = j → N o 0 2 = P 3 j - 1 → N o 0 3 = sX P i (P 3 j - 1) → (∀ e, e4 e → N o 8 e = sLv P i (P 3 j - 1) j e ∧ N o 9 e = sA P i (P 3 j - 1) e) → m8 r → (∀ v, v < 8 → (bt r v = true ↔ ∃ e, e4 e ∧ xE P i (P 3 j - 1) e ∧ sL P j e v)) → m8 (N o 0 5) → (∀ v, v < 8 → (bt (N o 0 5) v = true ↔ ((∃ z, i ≤ z ∧ z < k ∧ bt (P 22 z) v = true) ∧ bt r v = true))) → sl_At l mX1_examine 182 [(0, vR 6 0), (1, vR o 0), (2, vI i), (6, vI r), (7, vI k)] [] N Q := by
    intro n
    have fin : ∀ (k r : Int) (N : sl_M), P 3 j ≤ k → k ≤ P 3 j → (∀ o' a b, o' ≠ o → ¬ (o' = 6 ∧ (a = 5 ∨ a = 6)) → N o' a b = M o' a b) → N o 0 0 = i → N o 0 1 = j → N o 0 2 = P 3 j - 1 → N o 0 3 = sX P i (P 3 j - 1) → (∀ e, e4 e → N o 8 e = sLv P i (P 3 j - 1) j e ∧ N o 9 e = sA P i (P 3 j - 1) e) → (∀ v, v < 8 → (bt r v = true ↔ ∃ e, e4 e ∧ xE P i (P 3 j - 1) e ∧ sL P j e v)) → m8 (N o 0 5) → (∀ v, v < 8 → (bt (N o 0 5) v = true ↔ ((∃ z, i ≤ z ∧ z < k ∧ bt (P 22 z) v = true) ∧ bt r v = true))) → sl_RV l mX1_findLive [vR 6 0, vI i, vI (N o 0 2), vR 6 5] N (fun M2 => (0 ≤ i ∧ i < 40) ∧ (∀ M4, M4 = sl_wr M2 o 0 4 (M2 6 5 i) → sl_At l mX1_examine 244 [(0, vR 6 0), (1, vR o 0), (7, vI 1)] [] M4 Q)) := by
      intro k r N hk1 hk2 hout h0 h1 h2 h3 h8 hr' hm5 hb5
      obtain ⟨kF, kD⟩ := keepF N hout
      rw [h2]
      refine kX1_findLive hw kF kD.1 rfl hr (fun N2 hL hfa => ⟨rfl, by omega, fun N4 eN => ?_⟩)
      have oo : ∀ a b, N2 o a b = N o a b := fun a b => hfa o a b (fun z => by omega)
      have h5 : N o 0 5 = sO P i j := by
        refine msk_eq hm5 (fun v hv => ?_)
        rw [hb5 v hv, hr' v hv]
        constructor
        · rintro ⟨⟨z, z1, z2, z3⟩, q⟩; exact ⟨⟨z, z1, by omega, z3⟩, q⟩
        · rintro ⟨⟨z, z1, z2, z3⟩, q⟩; exact ⟨⟨z, z1, by omega, z3⟩, q⟩
      obtain ⟨l1, l2⟩ := hL i (Int.le_refl _) (by omega)
      have e4' : N4 o 0 4 = N2 6 5 i := by rw [eN]; exact sl_wr_s
      refine last 4 1 N4 (by omega) (fun o' a b h1 h2 => ?_) ?_ ?_ ?_ ?_ ?_ (fun e he => ⟨?_, ?_⟩) (by rw [e4']; exact l1) (fun v hv => ?_)
      · rw [eN, sl_wr_o o' a b (fun z => h1 (by cases z; rfl)), hfa o' a b (fun z => h2 ⟨z.1, Or.inl z.2⟩)]; exact hout o' a b h1 h2
      · rw [eN]; simp [sl_wr]; rw [oo]; exact h0
      · rw [eN]; simp [sl_wr]; rw [oo]; exact h1
      · rw [eN]; simp [sl_wr]; rw [oo]; exact h2
      · rw [eN]; simp [sl_wr]; rw [oo]; exact h3
      · rw [eN]; simp [sl_wr]; rw [oo]; exact h5
      · rw [eN]; simp [sl_wr]; rw [oo]; exact (h8 e he).1
      · rw [eN]; simp [sl_wr]; rw [oo]; exact (h8 e he).2
      · rw [e4', l2 v hv]
        constructor
        · exact Or.inl
        · rintro (z | ⟨q, q1, q2, -⟩)
          · exact z
          · unfold e4 at q2; omega
    induction n with
    | zero =>
      intro k r N hk hk1 hk2 hout h0 h1 h2 h3 h8 hmr hr' hm5 hb5
      refine vX1_examine_182 hc6 fun _ _ _ _ => ⟨fun _ => fin k r N (by omega) hk2 hout h0 h1 h2 h3 h8 hr' hm5 hb5, fun q => by omega⟩
    | succ n ih =>
      intro k r N hk hk1 hk2 hout h0 h1 h2 h3 h8 hmr hr' hm5 hb5
      refine vX1_examine_182 hc6 fun _ _ _ _ => ⟨fun q => fin k r N (by omega) hk2 hout h0 h1 h2 h3 h8 hr' hm5 hb5, fun q => ?_⟩
      obtain ⟨kF, kD⟩ := keepF N hout
      refine ⟨s, ⟨kD.1, hF.1⟩, kX7_changedBy hw kF (by omega) ⟨_, rfl, fun N' eN => ⟨by omega, ?_⟩⟩⟩
      have e5 : N' o 0 5 = ior (N o 0 5) (iand (P 22 k) r) := by rw [eN]; exact sl_wr_s
      refine ih (k + 1) r N' (by omega) (by omega) (by omega) (fun o' a b h1 h2 => by rw [eN, sl_wr_o o' a b (fun z => h1 (by cases z; rfl))]; exact hout o' a b h1 h2) ?_ ?_ ?_ ?_ (fun e he => ⟨?_, ?_⟩) hmr hr' (by rw [e5]; exact m8_or hm5 (m8_and' hmr)) (fun v hv => ?_)
      · rw [eN]; simp [sl_wr]; exact h0
      · rw [eN]; simp [sl_wr]; exact h1
      · rw [eN]; simp [sl_wr]; exact h2
      · rw [eN]; simp [sl_wr]; exact h3
      · rw [eN]; simp [sl_wr]; exact (h8 e he).1
      · rw [eN]; simp [sl_wr]; exact (h8 e he).2
      · rw [e5, bt_ior, bt_iand, Bool.or_eq_true, Bool.and_eq_true, hb5 v hv]
        constructor
        · rintro (⟨⟨z, z1, z2, z3⟩, q⟩ | ⟨z, q⟩)
          · exact ⟨⟨z, z1, by omega, z3⟩, q⟩
          · exact ⟨⟨k, hk1, by omega, z⟩, q⟩
        · rintro ⟨⟨z, z1, z2, z3⟩, w⟩
          by_cases c : z = k
          · subst c; exact Or.inr ⟨z3, w⟩
          · exact Or.inl ⟨⟨z, z1, by omega, z3⟩, w⟩
  -- the exits
  have exits : ∀ (n : Nat) (e r : Int) (N : sl_M), (e = 1 ∧ n = 4 ∨ e = 2 ∧ n = 3 ∨ e = 4 ∧ n = 2 ∨ e = 8 ∧ n = 1 ∨ e = 16 ∧ n = 0) → (∀ o' a b, o' ≠ o → ¬ (o' = 6 ∧ (a = 5 ∨ a = 6)) → N o' a b = M o' a b) → (∀ q, e4 q → N 6 6 q = sA P i (P 3 j - 1) q ∧ (N 6 6 q = -1 ↔ ¬ xE P i (P 3 j - 1) q)) → N o 0 0 = i → N o 0 1 = j → N o 0 2 = P 3 j - 1 → N o 0 3 = pX (bi (xE P i (P 3 j - 1) 1)) (bi (xE P i (P 3 j - 1) 2)) (bi (xE P i (P 3 j - 1) 4)) (bi (xE P i (P 3 j - 1) 8)) e → (∀ q, e4 q → q < e → N o 8 q = sLv P i (P 3 j - 1) j q ∧ N o 9 q = sA P i (P 3 j - 1) q) → m8 r → (∀ v, v < 8 → (bt r v = true ↔ ∃ q, q < e ∧ e4 q ∧ xE P i (P 3 j - 1) q ∧ sL P j q v)) → sl_At l mX1_examine 66 [(0, vR 6 0), (1, vR o 0), (2, vI i), (3, vI j), (4, vR (s + 10) 0), (5, vI (P 0 0 - 1)), (6, vI r), (7, vI e)] [] N Q := by
    intro n
    induction n with
    | zero =>
      intro e r N he hout h66 h0 h1 h2 h3 h8 hm hb
      have he16 : e = 16 := by omega
      refine vX1_examine_66 hc6 hp fun _ _ _ _ _ _ => ⟨fun _ N' eN => ?_, fun q => by omega⟩
      refine outs (P 3 j - i).toNat i r N' (Nat.le_refl _) (Int.le_refl _) (by omega) (fun o' a b h1 h2 => by rw [eN, sl_wr_o o' a b (fun z => h1 (by cases z; rfl))]; exact hout o' a b h1 h2) ?_ ?_ ?_ ?_ (fun e he => ⟨?_, ?_⟩) hm (fun v hv => ?_) ?_ (fun v hv => ?_)
      · rw [eN]; simp [sl_wr]; exact h0
      · rw [eN]; simp [sl_wr]; exact h1
      · rw [eN]; simp [sl_wr]; exact h2
      · rw [eN]; simp [sl_wr]; rw [h3, he16]; unfold pX sX; simp
      · rw [eN]; simp [sl_wr]; exact (h8 e he (by unfold e4 at he; omega)).1
      · rw [eN]; simp [sl_wr]; exact (h8 e he (by unfold e4 at he; omega)).2
      · rw [hb v hv]
        constructor
        · rintro ⟨q, -, z⟩; exact ⟨q, z⟩
        · rintro ⟨q, z⟩; exact ⟨q, by have := z.1; unfold e4 at this; omega, z⟩
      · rw [eN, sl_wr_s]; exact m8_0
      · rw [eN, sl_wr_s, bt_0]
        constructor
        · intro q; cases q
        · rintro ⟨⟨z, z1, z2, -⟩, -⟩; omega
    | succ n ih =>
      intro e r N he hout h66 h0 h1 h2 h3 h8 hm hb
      have he' : e4 e := by unfold e4; omega
      refine vX1_examine_66 hc6 hp fun _ _ _ _ _ _ => ⟨fun q => by omega, fun _ => ⟨by omega, fun N1 eN1 N2 eN2 => ?_⟩⟩
      have out2 : ∀ o' a b, o' ≠ o → N2 o' a b = N o' a b := fun o' a b h1 => by rw [eN2, sl_wr_o o' a b (fun z => h1 (by cases z; rfl)), eN1, sl_wr_o o' a b (fun z => h1 (by cases z; rfl))]
      have f2 : ∀ q, N2 o 0 q = N o 0 q := fun q => by rw [eN2]; simp [sl_wr]; rw [eN1]; simp [sl_wr]
      have g9 : N2 o 9 = up (N o 9) e (N 6 6 e) := by
        have : N2 o 9 = N1 o 9 := by funext q; rw [eN2]; simp [sl_wr]
        rw [this, eN1]; exact wr_row
      have g8 : N2 o 8 = up (N o 8) e 0 := by
        have : N1 o 8 = N o 8 := by funext q; rw [eN1]; simp [sl_wr]
        rw [eN2, wr_row, this]
      have b1 := bi_bd (xE P i (P 3 j - 1) 1); have b2 := bi_bd (xE P i (P 3 j - 1) 2)
      have b4 := bi_bd (xE P i (P 3 j - 1) 4); have b8 := bi_bd (xE P i (P 3 j - 1) 8)
      have hxe := h66 e he'
      rw [out2 6 6 e n6]
      refine ⟨fun q => ⟨by omega, fun y ey => ?_⟩, fun q N3 eN3 => ?_⟩
      · have nx : ¬ xE P i (P 3 j - 1) e := hxe.2.mp q
        refine ih y r N2 (by omega) (fun o' a b h1 h2 => by rw [out2 o' a b h1]; exact hout o' a b h1 h2) (fun q hq => by rw [out2 6 6 q n6]; exact h66 q hq) (by rw [f2]; exact h0) (by rw [f2]; exact h1) (by rw [f2]; exact h2) ?_ (fun w w1 w2 => ?_) hm (fun v hv => ?_)
        · rw [f2, h3, ey]
          unfold pX
          rcases he' with rfl | rfl | rfl | rfl <;> simp [bi0 nx]
        · by_cases c : w = e
          · subst c
            rw [g8, g9, up_s, up_s]
            exact ⟨by unfold sLv; rw [cif0 nx], hxe.1⟩
          · rw [g8, g9, up_o c, up_o c]
            exact h8 w w1 (by unfold e4 at w1; omega)
        · rw [hb v hv]
          constructor
          · rintro ⟨w, w1, w2⟩; exact ⟨w, by omega, w2⟩
          · rintro ⟨w, w1, w2, w3, w4⟩
            refine ⟨w, ?_, w2, w3, w4⟩
            by_cases c : w = e
            · subst c; exact absurd w3 nx
            · unfold e4 at w2; omega
      · have yx : xE P i (P 3 j - 1) e := Classical.byContradiction fun z => q (hxe.2.mpr z)
        have out3 : ∀ o' a b, o' ≠ o → N3 o' a b = N o' a b := fun o' a b h1 => by rw [eN3, sl_wr_o o' a b (fun z => h1 (by cases z; rfl))]; exact out2 o' a b h1
        obtain ⟨kF, kD⟩ := keepF N3 (fun o' a b h1 h2 => by rw [out3 o' a b h1]; exact hout o' a b h1 h2)
        have bdx := pX_bd b1 b2 b4 b8 he'
        have tb : ∀ z, 0 ≤ tg P 0 (P 0 0 - 1) j e → z = tg P 0 (P 0 0 - 1) j e → z < P 0 0 := by
          intro z z1 z2
          rw [z2]
          unfold tg
          have pj := hw.pr (k := j) (by omega) s2
          have l1 := la_rng hw (f := 0) (by omega) 40 (P 2 j) (by omega)
          have q1 := bh_rng hw (f := 0) (t := P 0 0 - 1) (by omega) (by omega) 40 j (by omega) s2
          split
          · omega
          · split
            · unfold e4 at he'; omega
            · have q2 := bh_rng hw (f := 0) (t := P 0 0 - 1) (by omega) (by omega) 40 (la P 0 40 (P 2 j)) (by omega) (by omega)
              split <;> omega
        refine kX0_target hp hw kF.2.1 (by omega) he' (by omega) (by omega) ⟨_, rfl, fun z => ⟨by omega, tb _ (by omega) rfl |> fun z => by omega⟩, fun N4 eN4 y ey => ⟨by omega, fun y2 ey2 => ?_⟩⟩
        have L3 : N3 6 3 = M 6 3 := by funext q; rw [out3 6 3 q n6]; exact hout 6 3 q n6 (by omega)
        obtain ⟨hLv, -⟩ := kD.2 (by omega)
        have v8 : (if tg P 0 (P 0 0 - 1) j e < 0 then 0 else N3 6 3 (tg P 0 (P 0 0 - 1) j e)) = sLv P i (P 3 j - 1) j e := by
          unfold sLv
          rw [cif1 yx]
          by_cases c : tg P 0 (P 0 0 - 1) j e < 0
          · rw [if_pos c]
            exact msk_eq m8_0 (fun v hv => ⟨fun z => (by rw [bt_0] at z; cases z), fun z => by have := z.1; omega⟩)
          · rw [if_neg c]
            obtain ⟨z1, z2⟩ := hLv (tg P 0 (P 0 0 - 1) j e) (by omega) (by have := tb _ (by omega) rfl; omega)
            exact msk_eq z1 (fun v hv => (z2 v hv).trans ⟨fun z => ⟨by omega, z⟩, fun z => z.2⟩)
        rw [v8] at eN4
        have out4 : ∀ o' a b, o' ≠ o → N4 o' a b = N o' a b := fun o' a b h1 => by rw [eN4, sl_wr_o o' a b (fun z => h1 (by cases z; rfl))]; exact out3 o' a b h1
        have f4 : ∀ q, q ≠ 3 → N4 o 0 q = N o 0 q := fun q hq => by rw [eN4]; simp [sl_wr]; rw [eN3]; simp [sl_wr, hq]; exact f2 q
        have f43 : N4 o 0 3 = ior (N o 0 3) e := by rw [eN4]; simp [sl_wr]; rw [eN3, sl_wr_s, f2]
        have k9 : N4 o 9 = up (N o 9) e (N 6 6 e) := by
          have : N4 o 9 = N2 o 9 := by funext q; rw [eN4]; simp [sl_wr]; rw [eN3]; simp [sl_wr]
          rw [this]; exact g9
        have k8 : N4 o 8 = up (up (N o 8) e 0) e (sLv P i (P 3 j - 1) j e) := by
          have : N3 o 8 = N2 o 8 := by funext q; rw [eN3]; simp [sl_wr]
          rw [eN4, wr_row, this, g8]
        have k8e : N4 o 8 e = sLv P i (P 3 j - 1) j e := by rw [k8, up_s]
        rw [k8e] at ey
        refine ih y2 y N4 (by omega) (fun o' a b h1 h2 => by rw [out4 o' a b h1]; exact hout o' a b h1 h2) (fun q hq => by rw [out4 6 6 q n6]; exact h66 q hq) (by rw [f4 0 (by omega)]; exact h0) (by rw [f4 1 (by omega)]; exact h1) (by rw [f4 2 (by omega)]; exact h2) ?_ (fun w w1 w2 => ?_) (by rw [ey]; exact m8_or hm m8_sLv) (fun v hv => ?_)
        · rw [f43, h3, ior_pw' he' bdx.1 bdx.2, ey2]
          unfold pX
          rcases he' with rfl | rfl | rfl | rfl <;> simp [bi1 yx]
        · by_cases c : w = e
          · subst c
            exact ⟨k8e, by rw [k9, up_s]; exact hxe.1⟩
          · rw [k8, k9, up_o c, up_o c, up_o c]
            exact h8 w w1 (by unfold e4 at w1; omega)
        · rw [ey, bt_ior, Bool.or_eq_true, hb v hv, bt_sLv hv]
          constructor
          · rintro (⟨w, w1, w2⟩ | z)
            · exact ⟨w, by omega, w2⟩
            · exact ⟨e, by omega, he', z⟩
          · rintro ⟨w, w1, w2, w3, w4⟩
            by_cases c : w = e
            · subst c; exact Or.inr ⟨w3, w4⟩
            · exact Or.inl ⟨w, by unfold e4 at w2; omega, w2, w3, w4⟩
  -- from the entry
  have e3 := (hF.2.1.2 j (by omega) s2).2.2.1
  have hcn := hF.2.1.1
  refine eX1_examine (vX1_examine_0 hc6 fun _ _ _ => ⟨s, ⟨hd.1, hF.1⟩, by omega, fun y ey M4 e4' M5 e5 => ⟨by omega, ?_⟩⟩)
  have out5 : ∀ o' a b, o' ≠ o → M5 o' a b = M o' a b := fun o' a b h1 => by rw [e5, sl_wr_o o' a b (fun z => h1 (by cases z; rfl)), e4', sl_wr_o o' a b (fun z => h1 (by cases z; rfl))]
  have no10 : s + 10 ≠ o := nst _ (Or.inr (Or.inl rfl))
  rw [out5 (s + 10) 3 j no10]
  refine ⟨by omega, fun M8 e8 => ?_⟩
  have out8 : ∀ o' a b, o' ≠ o → M8 o' a b = M o' a b := fun o' a b h1 => by rw [e8, sl_wr_o o' a b (fun z => h1 (by cases z; rfl))]; exact out5 o' a b h1
  have h82 : M8 o 0 2 = P 3 j - 1 := by rw [e8, sl_wr_s]; omega
  obtain ⟨kF, kD⟩ := keepF M8 (fun o' a b h1 _ => out8 o' a b h1)
  rw [h82]
  refine kX1_findSet hw kF kD.1 rfl hr m8_0 (fun M9 hS hfo => ⟨rfl, fun M10 e10 => ?_⟩)
  have oo : ∀ a b, M9 o a b = M8 o a b := fun a b => hfo o a b (fun z => by omega)
  have hy : y = P 0 0 - 1 := by omega
  rw [hy]
  refine exits 4 1 0 M10 (by omega) (fun o' a b h1 h2 => ?_) (fun q hq => ?_) ?_ ?_ ?_ ?_ (fun q q1 q2 => by unfold e4 at q1; omega) m8_0 (fun v hv => ?_)
  · rw [e10, sl_wr_o o' a b (fun z => h1 (by cases z; rfl)), hfo o' a b (fun z => h2 z)]; exact out8 o' a b h1
  · rw [e10, sl_wr_o 6 6 q (fun z => by cases z)]; exact hS.row hq
  · rw [e10]; simp [sl_wr]; rw [oo, e8]; simp [sl_wr]; rw [e5]; simp [sl_wr]; rw [e4']; simp [sl_wr]
  · rw [e10]; simp [sl_wr]; rw [oo, e8]; simp [sl_wr]; rw [e5]; simp [sl_wr]
  · rw [e10]; simp [sl_wr]; rw [oo]; exact h82
  · rw [e10, sl_wr_s]; unfold pX; simp
  · rw [bt_0]
    constructor
    · intro q; cases q
    · rintro ⟨q, q1, q2, -⟩; unfold e4 at q2; omega
end K
