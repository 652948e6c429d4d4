/-! The reference: laysLive -/
section K
variable {l : Launch} {M : sl_M} {Q : sl_R} {P : Pg} {b : Int}
theorem wr_row' {M : sl_M} {o i : Nat} {b x v : Int} : (fun k => (sl_wr M o i (b + x) v) o i (b + k)) = up (fun k => M o i (b + k)) x v := by
  funext k
  unfold sl_wr up
  by_cases c : k = x
  · rw [if_pos ⟨rfl, rfl, by omega⟩, if_pos c]
  · rw [if_neg (fun z => c (by omega)), if_neg c]
theorem tN_rng {x : Int} (h : x < P 0 0) (hn : 0 ≤ P 0 0) : 0 ≤ tN P x ∧ tN P x ≤ P 0 0 := by unfold tN; split <;> omega
/-- the measure of what a node's ways give so far -/
def LB (M : sl_M) (b : Int) (P : Pg) (k w r : Int) : Prop := m8 r ∧ ∀ v, v < 8 → (bt r v = true ↔ (bt (P 10 k) v = true ∨ ∃ u, 0 ≤ u ∧ u < w ∧ bt (M 1 27 (4 * (b + k) + u)) v = false ∧ bt (M 1 30 (b + M 1 26 (4 * (b + k) + u))) v = true))
theorem kX10_laysLive (hw : WF P) (hL : Ld M b P) (hN : LdN M b P) (hW : ∀ k, 0 ≤ k → k < P 0 0 → WYk M b P k) (hu : ∀ k, 0 ≤ k → k < P 0 0 → m8 (P 10 k)) (hS : ∀ k x S, 0 ≤ k → k < P 0 0 → Ed P 0 (P 0 0 - 1) k x S → m8 S) (hQ : ∀ N, FL M N b (P 0 0) → (0 < P 0 0 → LvS P 0 (P 0 0 - 1) (Lf N b)) → N 1 30 (b + P 0 0) = 0 → SuS P (Sf N b) → Q none N) : sl_Runs l mX10_laysLive [vR 1 0, vI b] M Q := by
  have hn := hw.n0
  have hb := hL.1
  -- the end of the passes
  have fin : ∀ N, FL M N b (P 0 0) → (0 < P 0 0 → LI P 0 (P 0 0 - 1) (Lf N b)) → SI P (Sf N b) → N 1 30 (b + P 0 0) = 0 → (∀ k, 0 ≤ k → k < P 0 0 → LA P 0 (P 0 0 - 1) (Lf N b) k (Lf N b k) ∧ SC P (Sf N b) k) → sl_At l mX10_laysLive 49 [(0, vR 1 0), (1, vI b), (2, vI (P 0 0)), (3, vI 0)] [] N Q := by
    intro N hf hI hSI h0 hc
    exact vX10_laysLive_49 fun _ _ _ _ => ⟨fun _ => hQ N hf (fun hp => (hI hp).done hw (hw.rgA hp) (fun k k0 k1 => (hc k k0 (by omega)).1)) h0 (hSI.done hw (fun k k0 k1 => (hc k k0 k1).2)), fun q => absurd rfl q⟩
  have passes : ∀ (m : Nat) (N : sl_M), mu P (Lf N b) (Sf N b) ≤ m → FL M N b (P 0 0) → (0 < P 0 0 → LI P 0 (P 0 0 - 1) (Lf N b)) → SI P (Sf N b) → N 1 30 (b + P 0 0) = 0 → sl_At l mX10_laysLive 49 [(0, vR 1 0), (1, vI b), (2, vI (P 0 0)), (3, vI 1)] [] N Q := by
    intro m
    induction m with
    | zero => ?_
    | succ m ih => ?_
    all_goals
      intro N0 hm hf0 hI0 hSI0 hz0
      have mL0 : ∀ k, 0 ≤ k → k < P 0 0 → m8 (Lf N0 b k) := fun k k0 k1 => (hI0 (by omega) k k0 (by omega)).1
      have nodes : ∀ (n : Nat) (k d : Int) (N : sl_M), (k + 1).toNat ≤ n → -1 ≤ k → k < P 0 0 → FL M N b (P 0 0) → (0 < P 0 0 → LI P 0 (P 0 0 - 1) (Lf N b)) → SI P (Sf N b) → N 1 30 (b + P 0 0) = 0 → Ch P (Lf N0 b) (Sf N0 b) (Lf N b) (Sf N b) d → (d = 0 → ∀ y, k < y → y < P 0 0 → LA P 0 (P 0 0 - 1) (Lf N b) y (Lf N b y) ∧ SC P (Sf N b) y) → sl_At l mX10_laysLive 60 [(0, vR 1 0), (1, vI b), (2, vI (P 0 0)), (3, vI d), (4, vI k)] [] N Q := by
        have endp : ∀ (d : Int) (N : sl_M), FL M N b (P 0 0) → (0 < P 0 0 → LI P 0 (P 0 0 - 1) (Lf N b)) → SI P (Sf N b) → N 1 30 (b + P 0 0) = 0 → Ch P (Lf N0 b) (Sf N0 b) (Lf N b) (Sf N b) d → (d = 0 → ∀ y, -1 < y → y < P 0 0 → LA P 0 (P 0 0 - 1) (Lf N b) y (Lf N b y) ∧ SC P (Sf N b) y) → sl_At l mX10_laysLive 49 [(0, vR 1 0), (1, vI b), (2, vI (P 0 0)), (3, vI d)] [] N Q := by
          intro d N hf hI hSI h0 hc hcl
          have h01 := hc.2.2.1
          rcases h01 with rfl | rfl
          · exact fin N hf hI hSI h0 (fun k k0 k1 => hcl rfl k (by omega) k1)
          · have := hc.lt hn.1 rfl mL0 (fun k k0 k1 => (hI (by omega) k k0 (by omega)).1) hSI0.1 hSI.1
            first
              | exact absurd hm (by omega)
              | exact ih N (by omega) hf hI hSI h0
        intro n
        induction n with
        | zero =>
          intro k d N h1 h2 h3 hf hI hSI h0 hc hcl
          have : k = -1 := by omega
          subst this
          exact vX10_laysLive_60 fun _ _ _ _ _ => ⟨fun _ => endp d N hf hI hSI h0 hc hcl, fun q => by omega⟩
        | succ n ihn =>
          intro k d N h1 h2 h3 hf hI hSI h0 hc hcl
          refine vX10_laysLive_60 fun _ _ _ _ _ => ⟨fun q => ?_, fun q => ⟨by omega, by omega, fun y ey => ?_⟩⟩
          · have : k = -1 := by omega
            subst this
            exact endp d N hf hI hSI h0 hc hcl
          · have hk : 0 ≤ k ∧ k < P 0 0 := by omega
            have hrA := hw.rgA (by omega)
            have hWk := hf.wy (hW k hk.1 hk.2)
            obtain ⟨we1, we2, we3⟩ := way_ed hWk
            have e24 : N 1 24 (b + k) = P 10 k := (hf.ldn hN k hk.1 hk.2).2.2
            have i25 : ∀ N', FL M N' b (P 0 0) → N' 1 25 (b + k) = N 1 25 (b + k) := fun N' h' => by rw [h' 1 25 _ (by omega), hf 1 25 _ (by omega)]
            have i26 : ∀ N', FL M N' b (P 0 0) → ∀ j, N' 1 26 j = N 1 26 j := fun N' h' j => by rw [h' 1 26 _ (by omega), hf 1 26 _ (by omega)]
            have i27 : ∀ N', FL M N' b (P 0 0) → ∀ j, N' 1 27 j = N 1 27 j := fun N' h' j => by rw [h' 1 27 _ (by omega), hf 1 27 _ (by omega)]
            have ways : ∀ (n2 : Nat) (w d' r : Int) (N' : sl_M), (N 1 25 (b + k) - w).toNat ≤ n2 → 0 ≤ w → w ≤ N 1 25 (b + k) → FL M N' b (P 0 0) → SI P (Sf N' b) → (∀ j, N' 1 30 j = N 1 30 j) → Ch P (Lf N0 b) (Sf N0 b) (Lf N' b) (Sf N' b) d' → (d' = 0 → (∀ y, k < y → y < P 0 0 → LA P 0 (P 0 0 - 1) (Lf N' b) y (Lf N' b y) ∧ SC P (Sf N' b) y) ∧ ∀ u, 0 ≤ u → u < w → ∀ v, v < 8 → bt (N' 1 31 (b + k)) v = false → bt (N 1 27 (4 * (b + k) + u)) v = false → bt (N' 1 31 (b + N 1 26 (4 * (b + k) + u))) v = false) → LB N b P k w r → sl_At l mX10_laysLive 84 [(0, vR 1 0), (1, vI b), (2, vI (P 0 0)), (3, vI d'), (4, vI k), (5, vI r), (6, vI (4 * (b + k) + w))] [] N' Q := by
              -- all ways are seen
              have endw : ∀ (d' r : Int) (N' : sl_M), FL M N' b (P 0 0) → SI P (Sf N' b) → (∀ j, N' 1 30 j = N 1 30 j) → Ch P (Lf N0 b) (Sf N0 b) (Lf N' b) (Sf N' b) d' → (d' = 0 → (∀ y, k < y → y < P 0 0 → LA P 0 (P 0 0 - 1) (Lf N' b) y (Lf N' b y) ∧ SC P (Sf N' b) y) ∧ ∀ u, 0 ≤ u → u < N 1 25 (b + k) → ∀ v, v < 8 → bt (N' 1 31 (b + k)) v = false → bt (N 1 27 (4 * (b + k) + u)) v = false → bt (N' 1 31 (b + N 1 26 (4 * (b + k) + u))) v = false) → LB N b P k (N 1 25 (b + k)) r → (∀ y6 : Int, y6 = (if (d' ≠ 0) ∨ (¬ (r = N' 1 30 (b + k))) then 1 else 0) → (∀ M7, M7 = sl_wr N' 1 30 (b + k) r → (sl_rg (k + (-1))) ∧ sl_At l mX10_laysLive 60 [(0, vR 1 0), (1, vI b), (2, vI (P 0 0)), (3, vI y6), (4, vI (k + (-1)))] [] M7 Q)) := by
                intro d' r N' hf' hSI' h30 hc' hcl' hLB y6 ey6 N2 eN2
                have eL' : Lf N' b = Lf N b := by funext y; exact h30 _
                have hLA : LA P 0 (P 0 0 - 1) (Lf N' b) k r := by
                  refine ⟨hLB.1, fun v hv => ?_⟩
                  rw [hLB.2 v hv, eL']
                  constructor
                  · rintro (z | ⟨u, u1, u2, u3, u4⟩)
                    · exact Or.inl z
                    · obtain ⟨x, S, x1, x2, x3⟩ := we1 u u1 u2
                      by_cases c : x < 0
                      · exfalso
                        rw [x2] at u4
                        unfold tN at u4
                        rw [if_pos c, h0, bt_0] at u4
                        cases u4
                      · rw [x2] at u4
                        unfold tN at u4
                        rw [if_neg c] at u4
                        exact Or.inr ⟨x, S, x1, by omega, by rw [← x3]; exact u3, u4⟩
                  · rintro (z | ⟨x, S, x1, x2, x3, x4⟩)
                    · exact Or.inl z
                    · obtain ⟨u, u1, u2, u3, u4⟩ := we2 x S x1
                      refine Or.inr ⟨u, u1, u2, by rw [u4]; exact x3, ?_⟩
                      rw [u3]
                      unfold tN
                      rw [if_neg (by omega)]
                      exact x4
                have hI' : LI P 0 (P 0 0 - 1) (Lf N' b) := by rw [eL']; exact hI (by omega)
                obtain ⟨s1, s2⟩ := hI'.step hw hrA (k := k) (by omega) hLA
                have eL2 : Lf N2 b = up (Lf N' b) k r := by rw [eN2]; exact wr_row'
                have eS2 : Sf N2 b = Sf N' b := by funext y; show N2 1 31 (b + y) = N' 1 31 (b + y); rw [eN2]; simp [sl_wr]
                have f2 : FL M N2 b (P 0 0) := fun o i j z => by rw [eN2]; simp only [sl_wr]; rw [if_neg (by omega)]; exact hf' o i j z
                have c2 := hc'.live hk (r := r) (fun v hv q => by have := s2 k v hv hk.1 (by omega) q; rw [up_s] at this; exact this) mL0 (fun y y0 y1 => (hI' y y0 (by omega)).1)
                rw [← eL2, ← eS2] at c2
                have ey6' : y6 = (if d' ≠ 0 ∨ ¬ (r = Lf N' b k) then 1 else 0) := ey6
                rw [← ey6'] at c2
                refine ⟨by omega, ihn (k + (-1)) y6 N2 (by omega) (by omega) (by omega) f2 (fun _ => by rw [eL2]; exact s1) (by rw [eS2]; exact hSI') ?_ c2 (fun hy => ?_)⟩
                · rw [eN2]
                  simp only [sl_wr]
                  rw [if_neg (by omega), h30]; exact h0
                · rw [ey6'] at hy
                  have hy := b_eq0.mp hy
                  have d0 : d' = 0 := by omega
                  have er : r = Lf N' b k := Classical.byContradiction fun z => hy (Or.inr z)
                  have same : Lf N2 b = Lf N' b := by
                    rw [eL2]; funext y
                    by_cases c : y = k
                    · rw [c, up_s]; exact er
                    · exact up_o c
                  rw [same, eS2]
                  obtain ⟨z1, z2⟩ := hcl' d0
                  intro y y1 y2
                  by_cases c : y = k
                  · subst c
                    refine ⟨by rw [← er]; exact hLA, fun x E he hx v hv q1 q2 => ?_⟩
                    obtain ⟨u, u1, u2, u3, u4⟩ := we2 x E he
                    have := z2 u u1 u2 v hv q1 (by rw [u4]; exact q2)
                    rw [u3] at this
                    unfold tN at this
                    rw [if_neg (by omega)] at this
                    exact this
                  · exact z1 y (by omega) y2
              intro n2
              induction n2 with
              | zero =>
                intro w d' r N' g1 g2 g3 hf' hSI' h30 hc' hcl' hLB
                have : w = N 1 25 (b + k) := by omega
                subst this
                refine vX10_laysLive_84 fun _ _ _ _ _ _ _ => ⟨by omega, ?_⟩
                rw [i25 N' hf']
                exact ⟨by omega, fun _ => endw d' r N' hf' hSI' h30 hc' hcl' hLB, fun q => by omega⟩
              | succ n2 ihw =>
                intro w d' r N' g1 g2 g3 hf' hSI' h30 hc' hcl' hLB
                refine vX10_laysLive_84 fun _ _ _ _ _ _ _ => ⟨by omega, ?_⟩
                rw [i25 N' hf']
                refine ⟨by omega, fun q => ?_, fun q => ?_⟩
                · have : w = N 1 25 (b + k) := by omega
                  subst this
                  exact endw d' r N' hf' hSI' h30 hc' hcl' hLB
                · have w2 : w < N 1 25 (b + k) := by omega
                  obtain ⟨x, S, x1, x2, x3⟩ := we1 w g2 w2
                  have mS := hS k x S hk.1 hk.2 x1
                  have tn : 0 ≤ tN P x ∧ tN P x ≤ P 0 0 := by
                    refine tN_rng ?_ hn.1
                    by_cases c : 0 ≤ x
                    · have := (fw_ed hw hrA (k := k) (by omega) x1 c).1; omega
                    · omega
                  rw [i26 N' hf', i27 N' hf', x2, x3]
                  refine ⟨by omega, by omega, fun y1 ey1 y2 ey2 y3 ey3 N2 eN2 => ⟨by omega, ?_⟩⟩
                  rw [ey2] at ey3 eN2
                  have eS2 : Sf N2 b = up (Sf N' b) (tN P x) (iand (Sf N' b (tN P x)) (ior (Sf N' b k) S)) := by rw [eN2]; exact wr_row'
                  have f2 : FL M N2 b (P 0 0) := fun o i j z => by rw [eN2]; simp only [sl_wr]; rw [if_neg (by omega)]; exact hf' o i j z
                  have e30 : ∀ j, N2 1 30 j = N 1 30 j := fun j => by rw [eN2]; simp [sl_wr]; exact h30 j
                  have eL2 : Lf N2 b = Lf N' b := by funext y; show N2 1 30 _ = N' 1 30 _; rw [e30, h30]
                  have c2 := hc'.sure (m := ior (Sf N' b k) S) tn hSI0.1 hSI'.1
                  rw [← eS2, ← eL2] at c2
                  have ey3' : y3 = (if d' ≠ 0 ∨ ¬ (iand (Sf N' b (tN P x)) (ior (Sf N' b k) S) = Sf N' b (tN P x)) then 1 else 0) := ey3
                  rw [← ey3'] at c2
                  rw [show (4 * (b + k) + w + 1 : Int) = 4 * (b + k) + (w + 1) by omega]
                  have hS2 := hSI'.step hw hk x1 mS
                  rw [← eS2] at hS2
                  refine ihw (w + 1) y3 y1 N2 (by omega) (by omega) (by omega) f2 hS2 e30 c2 (fun hy => ?_) ?_
                  · rw [ey3'] at hy
                    have hy := b_eq0.mp hy
                    have d0 : d' = 0 := by omega
                    have er : iand (Sf N' b (tN P x)) (ior (Sf N' b k) S) = Sf N' b (tN P x) := Classical.byContradiction fun z => hy (Or.inr z)
                    have same : Sf N2 b = Sf N' b := by
                      rw [eS2]; funext y
                      by_cases c : y = tN P x
                      · rw [c, up_s]; exact er
                      · exact up_o c
                    obtain ⟨z1, z2⟩ := hcl' d0
                    have sk : ∀ y, N2 1 31 (b + y) = N' 1 31 (b + y) := fun y => congrFun same y
                    refine ⟨by rw [eL2, same]; exact z1, fun u u1 u2 v hv q1 q2 => ?_⟩
                    rw [sk] at q1 ⊢
                    by_cases c : u = w
                    · rw [c, x3] at q2
                      rw [c, x2]
                      have : bt (iand (Sf N' b (tN P x)) (ior (Sf N' b k) S)) v = false := by
                        rw [bt_iand, bt_ior, q2, show bt (Sf N' b k) v = false from q1]; simp
                      rw [er] at this
                      exact this
                    · exact z2 u u1 (by omega) v hv q1 q2
                  · have mo : m8 (N' 1 30 (b + tN P x)) := by
                      rw [h30]
                      by_cases c : tN P x = P 0 0
                      · rw [c, h0]; exact m8_0
                      · exact (hI (by omega) (tN P x) tn.1 (by omega)).1
                    refine ⟨by rw [ey1]; exact m8_or hLB.1 (m8_and mo), fun v hv => ?_⟩
                    rw [ey1, bt_ior, bt_iand, bt_not _ (by omega), Bool.or_eq_true, Bool.and_eq_true, Bool.not_eq_true', hLB.2 v hv, h30]
                    constructor
                    · rintro ((z | ⟨u, u1, u2, u3⟩) | ⟨z1, z2⟩)
                      · exact Or.inl z
                      · exact Or.inr ⟨u, u1, by omega, u3⟩
                      · exact Or.inr ⟨w, g2, by omega, by rw [x3]; exact z2, by rw [x2]; exact z1⟩
                    · rintro (z | ⟨u, u1, u2, u3, u4⟩)
                      · exact Or.inl (Or.inl z)
                      · by_cases c : u = w
                        · rw [c, x3] at u3
                          rw [c, x2] at u4
                          exact Or.inr ⟨u4, u3⟩
                        · exact Or.inl (Or.inr ⟨u, u1, by omega, u3, u4⟩)
            rw [e24, ey]
            have := ways (N 1 25 (b + k)).toNat 0 d (P 10 k) N (by omega) (by omega) we3.1 hf hSI (fun _ => rfl) hc (fun z => ⟨hcl z, fun u u1 u2 => by omega⟩) ⟨hu k hk.1 hk.2, fun v hv => ⟨Or.inl, fun z => z.elim id (fun ⟨u, u1, u2, _⟩ => by omega)⟩⟩
            rw [show (4 * (b + k) + 0 : Int) = 4 * (b + k) by omega] at this
            exact this
      refine vX10_laysLive_49 fun _ _ _ _ => ⟨fun q => by omega, fun _ => ⟨by omega, fun y ey => ?_⟩⟩
      exact nodes (y + 1).toNat y 0 N0 (Nat.le_refl _) (by omega) (by omega) hf0 hI0 hSI0 hz0 ⟨fun _ _ _ _ _ z => z, fun _ _ _ _ _ z => z, Or.inl rfl, fun _ => ⟨fun _ _ _ => rfl, fun _ _ _ => rfl⟩, fun z => by omega⟩ (fun _ y y1 y2 => by omega)
  have init : ∀ (n : Nat) (k : Int) (N : sl_M), (P 0 0 + 1 - k).toNat ≤ n → 0 ≤ k → k ≤ P 0 0 + 1 → FL M N b (P 0 0) → (∀ y, 0 ≤ y → y < k → N 1 30 (b + y) = 0 ∧ N 1 31 (b + y) = (if y ≠ 0 then 255 else 3)) → sl_At l mX10_laysLive 8 [(0, vR 1 0), (1, vI b), (2, vI (P 0 0)), (3, vI k)] [] N Q := by
    have go : ∀ N, FL M N b (P 0 0) → (∀ y, 0 ≤ y → y < P 0 0 + 1 → N 1 30 (b + y) = 0 ∧ N 1 31 (b + y) = (if y ≠ 0 then 255 else 3)) → sl_At l mX10_laysLive 49 [(0, vR 1 0), (1, vI b), (2, vI (P 0 0)), (3, vI 1)] [] N Q := by
      intro N hf hz
      have b255 : ∀ v, v < 8 → bt 255 v = true := by decide +kernel
      refine passes _ N (Nat.le_refl _) hf (fun hp => LI.zero (fun y y0 y1 => (hz y y0 (by omega)).1)) ⟨fun y y0 y1 => ?_, fun y y0 y1 v hv q => ?_, fun hp v hv q => ?_⟩ (hz (P 0 0) (by omega) (by omega)).1
      · show m8 (N 1 31 (b + y))
        rw [(hz y y0 (by omega)).2]
        split <;> exact ⟨by decide, by decide⟩
      · have q : bt (N 1 31 (b + y)) v = false := q
        rw [(hz y y0 (by omega)).2] at q
        by_cases c : y ≠ 0
        · rw [if_pos c, b255 v hv] at q; cases q
        · rw [if_neg c] at q
          have : y = 0 := by omega
          rw [this]
          exact ⟨q, Rw.base⟩
      · show bt (N 1 31 (b + 0)) v = false
        rw [(hz 0 (by omega) (by omega)).2, if_neg (by omega)]; exact q
    intro n
    induction n with
    | zero =>
      intro k N h1 h2 h3 hf hz
      refine vX10_laysLive_8 fun _ _ _ _ => ⟨fun _ => go N hf (fun y y0 y1 => hz y y0 (by omega)), fun q => by omega⟩
    | succ n ih =>
      intro k N h1 h2 h3 hf hz
      refine vX10_laysLive_8 fun _ _ _ _ => ⟨fun q => go N hf (fun y y0 y1 => hz y y0 (by omega)), fun q => ⟨by omega, fun N1 e1 N2 e2 => ⟨by omega, ?_⟩⟩⟩
      refine ih (k + 1) N2 (by omega) (by omega) (by omega) (fun o i j z => ?_) (fun y y0 y1 => ?_)
      · rw [e2, e1]
        simp only [sl_wr]
        rw [if_neg (by omega), if_neg (by omega)]
        exact hf o i j z
      · rw [e2, e1]
        simp only [sl_wr]
        by_cases c : y = k
        · subst c; simp
        · rw [if_neg (by omega), if_neg (by omega), if_neg (by omega), if_neg (by omega)]
          exact hz y y0 (by omega)
  exact eX10_laysLive (vX10_laysLive_0 fun _ _ => kX10_manyOf hL ⟨_, rfl, init (P 0 0 + 1).toNat 0 M (by omega) (by omega) (by omega) FL.rf (fun y y0 y1 => by omega)⟩)
end K
