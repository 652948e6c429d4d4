section K
variable {l : Launch} {M : sl_M} {Q : sl_R} {P : Pg}
theorem FWs.wy {M N : sl_M} (h : FWs M N) {b k : Int} {P : Pg} (hW : WYk M b P k) : WYk N b P k := by
  have e : ∀ i j, (i = 25 ∨ i = 26 ∨ i = 27 ∨ i = 28 ∨ i = 29) → N 1 i j = M 1 i j := fun i j hi => h 1 i j (by omega)
  unfold WYk WE at hW ⊢
  simp only [e 25 _ (by omega), e 26 _ (by omega), e 27 _ (by omega), e 28 _ (by omega), e 29 _ (by omega)]
  exact hW
theorem kX10_walksSpan (hw : WF P) {i j : Int} (hs : isp P i j) (hf : M 1 0 31 = i) (ht : M 1 0 32 = P 3 j) (hW : ∀ k, 0 ≤ k → k < P 0 0 → WYk M 0 P k) (hl : ∀ k, 0 ≤ k → k < P 0 0 → ∀ e, (e = 2 ∨ e = 4) → P 1 k ≠ 5 → P 1 k ≠ 6 → iand (P 20 k) e ≠ 0 → la P 0 40 (P 2 k) ≠ -1) (hm : ∀ a x S, i ≤ a → a ≤ P 3 j - 1 → Ed P i (P 3 j - 1) a x S → m8 S) (hQ : ∀ N, WS N P i (P 3 j - 1) → FWs M N → Q none N) : sl_Runs l mX10_walksSpan [vR 1 0, vI 0] M Q := by
  have hn := hw.n0
  have hr := hw.rgS hs
  have hs' := hs
  obtain ⟨s0, s1, s2, s3, s4⟩ := hs
  have aj := hw.af (k := j) (by omega) s2
  have passes : ∀ (m : Nat) (N : sl_M), gsum (N 1 41) (N 1 42) i (P 3 j - 1 - i + 1).toNat ≤ m → FWs M N → WI P i (P 3 j - 1) (N 1 41) (N 1 42) (N 1 0 33) (N 1 39) → sl_At l mX10_walksSpan 88 [(0, vR 1 0), (1, vI 0), (2, vI 1)] [] N Q := by
    intro m
    induction m with
    | zero => ?_
    | succ m ih => ?_
    all_goals
      intro N0 hm0 hf0 hI0
      have nodes : ∀ (n : Nat) (k d : Int) (N : sl_M), (P 3 j - k).toNat ≤ n → i ≤ k → k ≤ P 3 j → FWs M N → WI P i (P 3 j - 1) (N 1 41) (N 1 42) (N 1 0 33) (N 1 39) → CU i (P 3 j - 1) (N0 1 41) (N0 1 42) (N 1 41) (N 1 42) d → (d = 0 → ∀ y, i ≤ y → y < k → N 1 41 y = 1 → ∀ x S, Ed P i (P 3 j - 1) y x S → WC P i (P 3 j - 1) (N 1 41) (N 1 42) (N 1 0 33) (N 1 39) y x S) → sl_At l mX10_walksSpan 99 [(0, vR 1 0), (1, vI 0), (2, vI d), (3, vI k)] [] N Q := by
        have endp : ∀ (d : Int) (N : sl_M), FWs M N → WI P i (P 3 j - 1) (N 1 41) (N 1 42) (N 1 0 33) (N 1 39) → CU i (P 3 j - 1) (N0 1 41) (N0 1 42) (N 1 41) (N 1 42) d → (d = 0 → ∀ y, i ≤ y → y < P 3 j → N 1 41 y = 1 → ∀ x S, Ed P i (P 3 j - 1) y x S → WC P i (P 3 j - 1) (N 1 41) (N 1 42) (N 1 0 33) (N 1 39) y x S) → sl_At l mX10_walksSpan 88 [(0, vR 1 0), (1, vI 0), (2, vI d)] [] N Q := by
          intro d N hf' hI hc hcl
          rcases hc.2.1 with rfl | rfl
          · exact vX10_walksSpan_88 fun _ _ _ => ⟨fun _ => hQ N (hI.done hw hr (fun k k1 k2 => hcl rfl k k1 (by omega))) hf', fun q => absurd rfl q⟩
          · have := hc.lt (by omega) rfl hI0 hI
            first
              | exact absurd hm0 (by omega)
              | exact ih N (by omega) hf' hI
        intro n
        induction n with
        | zero =>
          intro k d N h1 h2 h3 hf' hI hc hcl
          refine vX10_walksSpan_99 fun _ _ _ _ => ⟨fun _ => endp d N hf' hI hc (fun z y y1 y2 => hcl z y y1 (by omega)), fun q => ?_⟩
          rw [hf' 1 0 32 (by omega), ht] at q
          omega
        | succ n ihn =>
          intro k d N h1 h2 h3 hf' hI hc hcl
          have e32 : ∀ N', FWs M N' → N' 1 0 32 = P 3 j := fun N' h' => by rw [h' 1 0 32 (by omega)]; exact ht
          have e31 : ∀ N', FWs M N' → N' 1 0 31 = i := fun N' h' => by rw [h' 1 0 31 (by omega)]; exact hf
          refine vX10_walksSpan_99 fun _ _ _ _ => ⟨fun q => endp d N hf' hI hc (fun z y y1 y2 => hcl z y y1 (by rw [e32 N hf'] at q; omega)), fun q => ⟨by omega, fun y ey => ?_⟩⟩
          rw [e32 N hf'] at q
          have hk : i ≤ k ∧ k ≤ P 3 j - 1 := by omega
          have hWk := hf'.wy (hW k (by omega) (by omega))
          obtain ⟨we1, we2⟩ := way_reg hw hs' hk.1 (by omega) hWk (hl k (by omega) (by omega))
          have we3 := (way_ed hWk).2.2
          have i25 : ∀ N', FWs M N' → N' 1 25 (0 + k) = N 1 25 (0 + k) := fun N' h' => by rw [h' 1 25 _ (by omega), hf' 1 25 _ (by omega)]
          have ieq : ∀ r, (r = 26 ∨ r = 27 ∨ r = 28 ∨ r = 29) → ∀ N', FWs M N' → ∀ j, N' 1 r j = N 1 r j := fun r hr' N' h' j => by rw [h' 1 r _ (by omega), hf' 1 r _ (by omega)]
          have ways : ∀ (n2 : Nat) (w d' : Int) (N' : sl_M), (N 1 25 (0 + k) - w).toNat ≤ n2 → 0 ≤ w → w ≤ N 1 25 (0 + k) → FWs M N' → WI P i (P 3 j - 1) (N' 1 41) (N' 1 42) (N' 1 0 33) (N' 1 39) → CU i (P 3 j - 1) (N0 1 41) (N0 1 42) (N' 1 41) (N' 1 42) d' → (d' = 0 → (∀ y, i ≤ y → y < k → N' 1 41 y = 1 → ∀ x S, Ed P i (P 3 j - 1) y x S → WC P i (P 3 j - 1) (N' 1 41) (N' 1 42) (N' 1 0 33) (N' 1 39) y x S) ∧ ∀ u, 0 ≤ u → u < w → (lb i (P 3 j - 1) (N 1 26 (4 * (0 + k) + u)) (N 1 28 (4 * (0 + k) + u)) (N 1 29 (4 * (0 + k) + u)) = 0 → WC P i (P 3 j - 1) (N' 1 41) (N' 1 42) (N' 1 0 33) (N' 1 39) k (N 1 26 (4 * (0 + k) + u)) (N 1 27 (4 * (0 + k) + u))) ∧ (e4 (lb i (P 3 j - 1) (N 1 26 (4 * (0 + k) + u)) (N 1 28 (4 * (0 + k) + u)) (N 1 29 (4 * (0 + k) + u))) → WC P i (P 3 j - 1) (N' 1 41) (N' 1 42) (N' 1 0 33) (N' 1 39) k (-(lb i (P 3 j - 1) (N 1 26 (4 * (0 + k) + u)) (N 1 28 (4 * (0 + k) + u)) (N 1 29 (4 * (0 + k) + u)))) (N 1 27 (4 * (0 + k) + u)))) → sl_At l mX10_walksSpan 114 [(0, vR 1 0), (1, vI 0), (2, vI d'), (3, vI k), (4, vI (4 * (0 + k) + w))] [] N' Q := by
            have endw : ∀ (d' : Int) (N' : sl_M), FWs M N' → WI P i (P 3 j - 1) (N' 1 41) (N' 1 42) (N' 1 0 33) (N' 1 39) → CU i (P 3 j - 1) (N0 1 41) (N0 1 42) (N' 1 41) (N' 1 42) d' → (d' = 0 → (∀ y, i ≤ y → y < k → N' 1 41 y = 1 → ∀ x S, Ed P i (P 3 j - 1) y x S → WC P i (P 3 j - 1) (N' 1 41) (N' 1 42) (N' 1 0 33) (N' 1 39) y x S) ∧ (N' 1 41 k = 1 → ∀ u, 0 ≤ u → u < N 1 25 (0 + k) → (lb i (P 3 j - 1) (N 1 26 (4 * (0 + k) + u)) (N 1 28 (4 * (0 + k) + u)) (N 1 29 (4 * (0 + k) + u)) = 0 → WC P i (P 3 j - 1) (N' 1 41) (N' 1 42) (N' 1 0 33) (N' 1 39) k (N 1 26 (4 * (0 + k) + u)) (N 1 27 (4 * (0 + k) + u))) ∧ (e4 (lb i (P 3 j - 1) (N 1 26 (4 * (0 + k) + u)) (N 1 28 (4 * (0 + k) + u)) (N 1 29 (4 * (0 + k) + u))) → WC P i (P 3 j - 1) (N' 1 41) (N' 1 42) (N' 1 0 33) (N' 1 39) k (-(lb i (P 3 j - 1) (N 1 26 (4 * (0 + k) + u)) (N 1 28 (4 * (0 + k) + u)) (N 1 29 (4 * (0 + k) + u)))) (N 1 27 (4 * (0 + k) + u))))) → sl_At l mX10_walksSpan 99 [(0, vR 1 0), (1, vI 0), (2, vI d'), (3, vI (k + 1))] [] N' Q := by
              intro d' N' hf2 hI2 hc2 hcl2
              refine ihn (k + 1) d' N' (by omega) (by omega) (by omega) hf2 hI2 hc2 (fun z y y1 y2 y3 x S he => ?_)
              obtain ⟨z1, z2⟩ := hcl2 z
              by_cases c : y = k
              · subst c
                obtain ⟨u, u1, u2, u3, u4⟩ := we2 x S he
                obtain ⟨v1, v2⟩ := z2 y3 u u1 u2
                rw [← u3]
                rcases u4 with ⟨g1, g2⟩ | ⟨g1, g2⟩
                · rw [g2]; exact v1 g1
                · rw [g2]; exact v2 g1
              · exact z1 y y1 (by omega) y3 x S he
            intro n2
            induction n2 with
            | zero =>
              intro w d' N' g1 g2 g3 hf2 hI2 hc2 hcl2
              have : w = N 1 25 (0 + k) := by omega
              subst this
              refine vX10_walksSpan_114 fun _ _ _ _ _ => ⟨by omega, fun q => ⟨by omega, ?_⟩, fun q => ⟨by omega, ?_⟩⟩
              · exact endw d' N' hf2 hI2 hc2 (fun z => ⟨(hcl2 z).1, fun _ => (hcl2 z).2⟩)
              · rw [i25 N' hf2]
                exact ⟨by omega, fun _ => ⟨by omega, endw d' N' hf2 hI2 hc2 (fun z => ⟨(hcl2 z).1, fun _ => (hcl2 z).2⟩)⟩, fun q => by omega⟩
            | succ n2 ihw =>
              intro w d' N' g1 g2 g3 hf2 hI2 hc2 hcl2
              refine vX10_walksSpan_114 fun _ _ _ _ _ => ⟨by omega, fun q => ⟨by omega, ?_⟩, fun q => ⟨by omega, ?_⟩⟩
              · exact endw d' N' hf2 hI2 hc2 (fun z => ⟨(hcl2 z).1, fun z2 => by omega⟩)
              · rw [i25 N' hf2]
                refine ⟨by omega, fun q2 => ⟨by omega, ?_⟩, fun q2 => ?_⟩
                · have : w = N 1 25 (0 + k) := by omega
                  subst this
                  exact endw d' N' hf2 hI2 hc2 (fun z => ⟨(hcl2 z).1, fun _ => (hcl2 z).2⟩)
                · have w2 : w < N 1 25 (0 + k) := by omega
                  have hC1 : N' 1 41 k = 1 := by
                    rcases hI2.1 k hk.1 hk.2 with ⟨z, -⟩ | ⟨z, -⟩
                    · exact absurd z q
                    · exact z
                  refine kX10_leavesBy (by omega) (by rw [e32 N' hf2]; omega) ⟨_, rfl, by omega, fun y1 ey1 => ?_⟩
                  rw [e31 N' hf2, e32 N' hf2, ieq 26 (by omega) N' hf2, ieq 28 (by omega) N' hf2, ieq 29 (by omega) N' hf2]
                  rw [ieq 27 (by omega) N' hf2] at ey1
                  rw [show (4 * (0 + k) + w + 1 : Int) = 4 * (0 + k) + (w + 1) by omega]
                  have hcase := we1 w g2 w2
                  generalize eB : lb i (P 3 j - 1) (N 1 26 (4 * (0 + k) + w)) (N 1 28 (4 * (0 + k) + w)) (N 1 29 (4 * (0 + k) + w)) = B at hcase ⊢
                  refine ⟨fun q3 N1 eN1 => ⟨sp_bd, fun N2 eN2 => ⟨by omega, ?_⟩⟩, fun q3 => ?_⟩
                  · -- it leaves
                    obtain ⟨b1, b2⟩ : e4 B ∧ Ed P i (P 3 j - 1) k (-B) (N 1 27 (4 * (0 + k) + w)) := by
                      rcases hcase with ⟨z, -⟩ | z
                      · exact absurd z q3
                      · exact z
                    have mS := hm k _ _ hk.1 hk.2 b2
                    have e39 : N1 1 39 = N' 1 39 := by funext y; rw [eN1]; simp [sl_wr]
                    have r39 : N2 1 39 = up (N' 1 39) (sp_place B) (iand (N' 1 39 (sp_place B)) (ior (N' 1 42 k) (N 1 27 (4 * (0 + k) + w)))) := by rw [eN2, wr_row, e39, ey1]
                    have r33 : N2 1 0 33 = ior (N' 1 0 33) B := by rw [eN2]; simp [sl_wr]; rw [eN1, sl_wr_s]
                    have r41 : N2 1 41 = N' 1 41 := by funext y; rw [eN2]; simp [sl_wr]; rw [eN1]; simp [sl_wr]
                    have r42 : N2 1 42 = N' 1 42 := by funext y; rw [eN2]; simp [sl_wr]; rw [eN1]; simp [sl_wr]
                    have f3 : FWs M N2 := fun o a y z => by
                      rw [eN2, eN1]
                      simp only [sl_wr]
                      rw [if_neg (by omega), if_neg (by omega)]; exact hf2 o a y z
                    have hI3 := hI2.leave hk hC1 b1 b2 mS
                    rw [← r39, ← r33, ← r41, ← r42] at hI3
                    have hor := ex_or (N' 1 0 33).toNat (by have := hI2.2.2.1; omega) B b1
                    rw [show (((N' 1 0 33).toNat : Nat) : Int) = N' 1 0 33 by have := hI2.2.2.1; omega, ← r33] at hor
                    have keepWC : ∀ y x S, WC P i (P 3 j - 1) (N' 1 41) (N' 1 42) (N' 1 0 33) (N' 1 39) y x S → WC P i (P 3 j - 1) (N2 1 41) (N2 1 42) (N2 1 0 33) (N2 1 39) y x S := by
                      intro y x S z
                      rw [r41, r42]
                      refine ⟨z.1, fun e he hxe => ⟨(hor.2 e he).mpr (Or.inl (z.2 e he hxe).1), fun v hv z1 z2 => ?_⟩⟩
                      have := (z.2 e he hxe).2 v hv z1 z2
                      rw [r39]
                      by_cases c : sp_place e = sp_place B
                      · rw [c, up_s, bt_iand, ← c, this, Bool.false_and]
                      · rw [up_o c]; exact this
                    refine ihw (w + 1) d' N2 (by omega) (by omega) (by omega) f3 hI3 (by rw [r41, r42]; exact hc2) (fun z => ⟨fun y y1' y2 y3 x S he => keepWC y x S ((hcl2 z).1 y y1' y2 (by rw [r41] at y3; exact y3) x S he), fun u u1 u2 => ?_⟩)
                    by_cases c : u = w
                    · subst c
                      rw [eB]
                      refine ⟨fun y => absurd y q3, fun _ => ⟨fun y => by unfold e4 at b1; omega, fun e he hxe => ?_⟩⟩
                      have : e = B := by omega
                      subst this
                      refine ⟨(hor.2 e he).mpr (Or.inr rfl), fun v hv z1 z2 => ?_⟩
                      rw [r42] at z1
                      rw [r39, up_s, bt_iand, bt_ior, z1, z2]; simp
                    · exact ⟨fun y => keepWC k _ _ (((hcl2 z).2 u u1 (by omega)).1 y), fun y => keepWC k _ _ (((hcl2 z).2 u u1 (by omega)).2 y)⟩
                  · -- it stays
                    have b0 : B = 0 := by omega
                    obtain ⟨b2, b3⟩ : Ed P i (P 3 j - 1) k (N 1 26 (4 * (0 + k) + w)) (N 1 27 (4 * (0 + k) + w)) ∧ 0 ≤ N 1 26 (4 * (0 + k) + w) := by
                      rcases hcase with z | ⟨z, -⟩
                      · exact z.2
                      · unfold e4 at z; omega
                    have mS := hm k _ _ hk.1 hk.2 b2
                    have tb := (fw_ed hw hr hk b2 b3).1
                    generalize eX : N 1 26 (4 * (0 + k) + w) = x at b2 b3 tb ⊢
                    refine ⟨fun _ => by omega, fun y2 ey2 => ⟨by omega, fun N1 eN1 N2 eN2 => ⟨by omega, ?_⟩⟩⟩
                    rw [ey1] at ey2 eN2
                    have e42 : N1 1 42 = N' 1 42 := by funext y; rw [eN1]; simp [sl_wr]
                    have r42 : N2 1 42 = up (N' 1 42) x (iand (N' 1 42 x) (ior (N' 1 42 k) (N 1 27 (4 * (0 + k) + w)))) := by rw [eN2, wr_row, e42]
                    have r41 : N2 1 41 = up (N' 1 41) x 1 := by
                      have : N2 1 41 = N1 1 41 := by funext y; rw [eN2]; simp [sl_wr]
                      rw [this, eN1, wr_row]
                    have r33 : N2 1 0 33 = N' 1 0 33 := by rw [eN2]; simp [sl_wr]; rw [eN1]; simp [sl_wr]
                    have r39 : N2 1 39 = N' 1 39 := by funext y; rw [eN2]; simp [sl_wr]; rw [eN1]; simp [sl_wr]
                    have f3 : FWs M N2 := fun o a y z => by
                      rw [eN2, eN1]
                      simp only [sl_wr]
                      rw [if_neg (by omega), if_neg (by omega)]; exact hf2 o a y z
                    have hI3 := hI2.stay hw hr hk hC1 b2 b3 mS
                    rw [← r42, ← r41, ← r33, ← r39] at hI3
                    have c3 := hc2.step hI0 hI2 (x := x) (m := ior (N' 1 42 k) (N 1 27 (4 * (0 + k) + w))) tb
                    rw [← r42, ← r41, ← ey2] at c3
                    refine ihw (w + 1) y2 N2 (by omega) (by omega) (by omega) f3 hI3 c3 (fun z => ?_)
                    rw [ey2] at z
                    have z := b_eq0.mp z
                    have d0 : d' = 0 := Classical.byContradiction fun y => z (Or.inl y)
                    have zc : N' 1 41 x = 1 := by
                      rcases hI2.1 x tb.1 tb.2 with ⟨y, -⟩ | ⟨y, -⟩
                      · exact absurd y (fun y => z (Or.inr (Or.inl y)))
                      · exact y
                    have zu : iand (N' 1 42 x) (ior (N' 1 42 k) (N 1 27 (4 * (0 + k) + w))) = N' 1 42 x := Classical.byContradiction fun y => z (Or.inr (Or.inr y))
                    have s41 : N2 1 41 = N' 1 41 := by
                      rw [r41]; funext y
                      by_cases c : y = x
                      · rw [c, up_s, zc]
                      · exact up_o c
                    have s42 : N2 1 42 = N' 1 42 := by
                      rw [r42]; funext y
                      by_cases c : y = x
                      · rw [c, up_s]; exact zu
                      · exact up_o c
                    rw [s41, s42, r33, r39]
                    refine ⟨(hcl2 d0).1, fun u u1 u2 => ?_⟩
                    by_cases c : u = w
                    · subst c
                      rw [eB, eX]
                      refine ⟨fun _ => ⟨fun _ => ⟨zc, fun v hv z1 z2 => ?_⟩, fun e he hxe => by unfold e4 at he; omega⟩, fun y => by unfold e4 at y; omega⟩
                      rw [← zu, bt_iand, bt_ior, z1, z2]; simp
                    · exact (hcl2 d0).2 u u1 (by omega)
          rw [ey]
          have := ways (N 1 25 (0 + k)).toNat 0 d N (by omega) (by omega) we3.1 hf' hI hc (fun z => ⟨hcl z, fun u u1 u2 => by omega⟩)
          rw [show (4 * (0 + k) + 0 : Int) = 4 * (0 + k) by omega] at this
          exact this
      refine vX10_walksSpan_88 fun _ _ _ => ⟨fun q => by omega, fun _ => ?_⟩
      rw [hf0 1 0 31 (by omega), hf]
      exact nodes (P 3 j - i).toNat i 0 N0 (Nat.le_refl _) (Int.le_refl _) (by omega) hf0 hI0 ⟨fun k k1 k2 => ⟨id, fun _ _ z => z⟩, Or.inl rfl, fun _ k k1 k2 => ⟨rfl, rfl⟩, fun z => by omega⟩ (fun _ y y1 y2 => by omega)
  have mid : ∀ (n : Nat) (p : Int) (N : sl_M), (4 - p).toNat ≤ n → 0 ≤ p → p ≤ 4 → FWs M N → (∀ y, i ≤ y → y < P 3 j → N 1 41 y = (if y = i then 1 else 0) ∧ N 1 42 y = (if y = i then 0 else 255)) → N 1 0 33 = 0 → (∀ y, 0 ≤ y → y < p → N 1 39 y = 255) → sl_At l mX10_walksSpan 66 [(0, vR 1 0), (1, vI 0), (2, vI p)] [] N Q := by
    have go : ∀ N, FWs M N → (∀ y, i ≤ y → y < P 3 j → N 1 41 y = (if y = i then 1 else 0) ∧ N 1 42 y = (if y = i then 0 else 255)) → N 1 0 33 = 0 → (∀ y, 0 ≤ y → y < 4 → N 1 39 y = 255) → sl_At l mX10_walksSpan 88 [(0, vR 1 0), (1, vI 0), (2, vI 1)] [] N Q := by
      intro N hf' hz h33 h39
      refine passes _ N (Nat.le_refl _) hf' ⟨fun k k1 k2 => ?_, ⟨?_, fun v hv => ?_⟩, ⟨by omega, by omega, fun e he z => ?_⟩, fun e he => ?_⟩
      · obtain ⟨z1, z2⟩ := hz k k1 (by omega)
        by_cases c : k = i
        · rw [if_pos c] at z1 z2
          refine Or.inr ⟨z1, by rw [z2]; exact m8_0, by rw [c]; exact Rw.base, fun v hv _ => by rw [c]; exact Rw.base⟩
        · rw [if_neg c] at z1 z2
          exact Or.inl ⟨z1, z2⟩
      · rw [(hz i (Int.le_refl _) (by omega)).1, if_pos rfl]
      · rw [(hz i (Int.le_refl _) (by omega)).2, if_pos rfl, bt_0]
      · rw [h33] at z
        exact absurd (by rcases he with rfl | rfl | rfl | rfl <;> decide +kernel) z
      · rw [h39 _ sp_bd.1 sp_bd.2]
        exact ⟨m8_255, fun _ => rfl, fun v hv z => by rw [bt_255 hv] at z; cases z⟩
    intro n
    induction n with
    | zero =>
      intro p N h1 h2 h3 hf' hz h33 h39
      refine vX10_walksSpan_66 fun _ _ _ => ⟨fun _ => go N hf' hz h33 (fun y y1 y2 => h39 y y1 (by omega)), fun q => by omega⟩
    | succ n ih =>
      intro p N h1 h2 h3 hf' hz h33 h39
      refine vX10_walksSpan_66 fun _ _ _ => ⟨fun q => go N hf' hz h33 (fun y y1 y2 => h39 y y1 (by omega)), fun q => ⟨by omega, fun N1 e1 => ⟨by omega, ?_⟩⟩⟩
      refine ih (p + 1) N1 (by omega) (by omega) (by omega) (fun o a y z => ?_) (fun y y1 y2 => ?_) ?_ (fun y y1 y2 => ?_)
      · rw [e1]; simp only [sl_wr]; rw [if_neg (by omega)]; exact hf' o a y z
      · rw [e1]; simp [sl_wr]; exact hz y y1 y2
      · rw [e1]; simp [sl_wr]; exact h33
      · rw [e1, wr_row]
        by_cases c : y = p
        · rw [c, up_s]
        · rw [up_o c]; exact h39 y y1 (by omega)
  have pre : ∀ (n : Nat) (k : Int) (N : sl_M), (P 3 j - k).toNat ≤ n → i ≤ k → k ≤ P 3 j → FWs M N → (∀ y, i ≤ y → y < k → N 1 41 y = (if y = i then 1 else 0) ∧ N 1 42 y = (if y = i then 0 else 255)) → sl_At l mX10_walksSpan 5 [(0, vR 1 0), (1, vI 0), (2, vI k)] [] N Q := by
    intro n
    induction n with
    | zero =>
      intro k N h1 h2 h3 hf' hz
      refine vX10_walksSpan_5 fun _ _ _ => ⟨fun _ N1 e1 => ?_, fun q => ?_⟩
      · refine mid 4 0 N1 (by omega) (by omega) (by omega) (fun o a y z => ?_) (fun y y1 y2 => ?_) (by rw [e1, sl_wr_s]) (fun y y1 y2 => by omega)
        · rw [e1]; simp only [sl_wr]; rw [if_neg (by omega)]; exact hf' o a y z
        · rw [e1]; simp [sl_wr]; exact hz y y1 (by omega)
      · rw [hf' 1 0 32 (by omega), ht] at q
        omega
    | succ n ih =>
      intro k N h1 h2 h3 hf' hz
      refine vX10_walksSpan_5 fun _ _ _ => ⟨fun q N1 e1 => ?_, fun q => ?_⟩
      · rw [hf' 1 0 32 (by omega), ht] at q
        refine mid 4 0 N1 (by omega) (by omega) (by omega) (fun o a y z => ?_) (fun y y1 y2 => ?_) (by rw [e1, sl_wr_s]) (fun y y1 y2 => by omega)
        · rw [e1]; simp only [sl_wr]; rw [if_neg (by omega)]; exact hf' o a y z
        · rw [e1]; simp [sl_wr]; exact hz y y1 (by omega)
      · rw [hf' 1 0 32 (by omega), ht] at q
        refine ⟨by omega, fun N1 e1 N2 e2 => ⟨by omega, ?_⟩⟩
        have f31 : N 1 0 31 = i := by rw [hf' 1 0 31 (by omega)]; exact hf
        have g31 : N1 1 0 31 = i := by rw [e1]; simp [sl_wr]; exact f31
        rw [f31] at e1
        rw [g31] at e2
        refine ih (k + 1) N2 (by omega) (by omega) (by omega) (fun o a y z => ?_) (fun y y1 y2 => ?_)
        · rw [e2, e1]; simp only [sl_wr]; rw [if_neg (by omega), if_neg (by omega)]; exact hf' o a y z
        · have a41 : N2 1 41 = up (N 1 41) k (if ¬ (k ≠ i) then 1 else 0) := by
            have : N2 1 41 = N1 1 41 := by funext y; rw [e2]; simp [sl_wr]
            rw [this, e1, wr_row]
          have a42 : N2 1 42 = up (N 1 42) k (if k ≠ i then 255 else 0) := by
            have : N1 1 42 = N 1 42 := by funext y; rw [e1]; simp [sl_wr]
            rw [e2, wr_row, this]
          rw [a41, a42]
          by_cases c : y = k
          · rw [c, up_s, up_s]
            by_cases c2 : k = i
            · rw [if_pos (fun z => z c2), if_pos c2, if_neg (fun z => z c2), if_pos c2]; exact ⟨rfl, rfl⟩
            · rw [if_neg (fun z => z c2), if_neg c2, if_pos c2, if_neg c2]; exact ⟨rfl, rfl⟩
          · rw [up_o c, up_o c]; exact hz y y1 (by omega)
  refine eX10_walksSpan (vX10_walksSpan_0 fun _ _ => ?_)
  rw [hf]
  exact pre (P 3 j - i).toNat i M (Nat.le_refl _) (Int.le_refl _) (by omega) FWs.rf (fun y y1 y2 => by omega)
end K
