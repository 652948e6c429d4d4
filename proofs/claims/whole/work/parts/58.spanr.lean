/-! The reference: what a span takes and gives -/
def LaF (M : sl_M) (P : Pg) : Prop := Ld M 0 P ∧ LdN M 0 P ∧ (∀ k, 0 ≤ k → k < P 0 0 → WYk M 0 P k) ∧ (0 < P 0 0 → LvS P 0 (P 0 0 - 1) (Lf M 0)) ∧ M 1 30 (P 0 0) = 0 ∧ SuS P (Sf M 0)
def PR22 (R : Int → Int) (P : Pg) : Prop := ∀ k, 0 ≤ k → k < P 0 0 → m8 (P 22 k) ∧ m8 (P 10 k) ∧ (∀ e, e4 e → m8 (P 21 (16 * k + e))) ∧ P 22 k = (if P 1 k = 7 then lset (R (950 + P 31 k)) else if P 1 k = 0 then ishl 1 (R (201 + P 30 k)) else 0)
/-- only a span's own cells have changed -/
def FSp (M N : sl_M) : Prop := ∀ o i j, ¬ (o = 1 ∧ (i = 41 ∨ i = 42 ∨ i = 39 ∨ i = 40 ∨ (i = 0 ∧ 31 ≤ j ∧ j ≤ 37))) → N o i j = M o i j
theorem FSp.rf {M : sl_M} : FSp M M := fun _ _ _ _ => rfl
theorem FSp.tr {M N O : sl_M} (h1 : FSp M N) (h2 : FSp N O) : FSp M O := fun o i j z => (h2 o i j z).trans (h1 o i j z)
theorem FSp.laf {M N : sl_M} {P : Pg} (h : FSp M N) (hL : LaF M P) : LaF N P := by
  obtain ⟨h1, h2, h3, h4, h5, h6⟩ := hL
  have e : ∀ r, r ≠ 41 → r ≠ 42 → r ≠ 39 → r ≠ 40 → r ≠ 0 → ∀ j, N 1 r j = M 1 r j := fun r a b c d e' j => h 1 r j (by omega)
  have eL : Lf N 0 = Lf M 0 := by funext k; exact e 30 (by decide) (by decide) (by decide) (by decide) (by decide) _
  have eS : Sf N 0 = Sf M 0 := by funext k; exact e 31 (by decide) (by decide) (by decide) (by decide) (by decide) _
  refine ⟨⟨h1.1, by rw [h 1 16 _ (by omega)]; exact h1.2.1, fun k k0 k1 => ?_⟩, fun k k0 k1 => ?_, fun k k0 k1 => ?_, by rw [eL]; exact h4, by rw [h 1 30 _ (by omega)]; exact h5, by rw [eS]; exact h6⟩
  · rw [h 1 17 _ (by omega), h 1 18 _ (by omega), h 1 19 _ (by omega), h 1 20 _ (by omega), h 1 23 _ (by omega)]; exact h1.2.2 k k0 k1
  · rw [h 1 21 _ (by omega), h 1 22 _ (by omega), h 1 24 _ (by omega)]; exact h2 k k0 k1
  · have := h3 k k0 k1
    unfold WYk WE at this ⊢
    have e25 : ∀ j, N 1 25 j = M 1 25 j := fun j => h 1 25 j (by omega)
    have e26 : ∀ j, N 1 26 j = M 1 26 j := fun j => h 1 26 j (by omega)
    have e27 : ∀ j, N 1 27 j = M 1 27 j := fun j => h 1 27 j (by omega)
    have e28 : ∀ j, N 1 28 j = M 1 28 j := fun j => h 1 28 j (by omega)
    have e29 : ∀ j, N 1 29 j = M 1 29 j := fun j => h 1 29 j (by omega)
    simp only [e25, e26, e27, e28, e29]
    exact this
theorem FWs.sp {M N : sl_M} (h : FWs M N) : FSp M N := fun o i j z => h o i j (by omega)
/-- what the cells of a span hold -/
def SpR (N : sl_M) (P : Pg) (i j : Int) : Prop := N 1 0 31 = i ∧ N 1 0 32 = P 3 j ∧ N 1 0 33 = sX P i (P 3 j - 1) ∧ N 1 0 34 = sI P i j ∧ N 1 0 35 = sO P i j ∧ N 1 0 37 = sB P i j ∧ ∀ e, e4 e → (m8 (N 1 40 (sp_place e)) ∧ ∀ v, v < 8 → (bt (N 1 40 (sp_place e)) v = true ↔ sL P j e v)) ∧ N 1 39 (sp_place e) = cif (xE P i (P 3 j - 1) e) (msk fun v => ¬ mU P i (P 3 j - 1) e v) 255
theorem ia_dec : ∀ n : Nat, n < 16 → (iand (n : Int) 1 ≠ 0 ↔ n % 2 = 1) ∧ (iand (n : Int) 2 ≠ 0 ↔ n / 2 % 2 = 1) ∧ (iand (n : Int) 4 ≠ 0 ↔ n / 4 % 2 = 1) ∧ (iand (n : Int) 8 ≠ 0 ↔ n / 8 % 2 = 1) := by decide +kernel
theorem iand_sX {P : Pg} {f t e : Int} (he : e4 e) : iand (sX P f t) e ≠ 0 ↔ xE P f t e := by
  have b1 := bi_bd (xE P f t 1); have b2 := bi_bd (xE P f t 2); have b4 := bi_bd (xE P f t 4); have b8 := bi_bd (xE P f t 8)
  have eX : sX P f t = bi (xE P f t 1) + 2 * bi (xE P f t 2) + 4 * bi (xE P f t 4) + 8 * bi (xE P f t 8) := rfl
  obtain ⟨n, hn⟩ : ∃ n : Nat, (n : Int) = sX P f t := ⟨(sX P f t).toNat, by omega⟩
  have k := ia_dec n (by omega)
  rw [hn] at k
  obtain ⟨k1, k2, k4, k8⟩ := k
  rcases he with rfl | rfl | rfl | rfl
  · exact k1.trans (Iff.trans (show n % 2 = 1 ↔ bi (xE P f t 1) = 1 by clear k1 k2 k4 k8; omega) bi_iff)
  · exact k2.trans (Iff.trans (show n / 2 % 2 = 1 ↔ bi (xE P f t 2) = 1 by clear k1 k2 k4 k8; omega) bi_iff)
  · exact k4.trans (Iff.trans (show n / 4 % 2 = 1 ↔ bi (xE P f t 4) = 1 by clear k1 k2 k4 k8; omega) bi_iff)
  · exact k8.trans (Iff.trans (show n / 8 % 2 = 1 ↔ bi (xE P f t 8) = 1 by clear k1 k2 k4 k8; omega) bi_iff)
section K
variable {l : Launch} {M : sl_M} {Q : sl_R} {P : Pg}
theorem kX10_sizeOf {m : Int} (hQ : Q (some (vI (pcn m))) M) : sl_Runs l mX10_sizeOf [vI m] M Q := by
  have b : ∀ k : Int, 0 ≤ k → k < 8 → (if iand (ishr m k) 1 = 1 then (1 : Int) else 0) = (bt m k.toNat).toNat := by
    intro k k0 k1
    have := has1 (m := m) (k := k) (by omega)
    cases e : bt m k.toNat
    · rw [e] at this
      rw [if_neg (fun z => by have := this.mp z; cases this)]; rfl
    · rw [e] at this
      rw [if_pos (this.mpr rfl)]; rfl
  have t0 := tn_le (bt m 0); have t1 := tn_le (bt m 1); have t2 := tn_le (bt m 2); have t3 := tn_le (bt m 3)
  have t4 := tn_le (bt m 4); have t5 := tn_le (bt m 5); have t6 := tn_le (bt m 6); have t7 := tn_le (bt m 7)
  have step : ∀ (k a : Int), 0 ≤ k → k < 8 → 0 ≤ a → a ≤ 8 → sl_At l mX10_sizeOf 4 [(0, vI m), (1, vI (a + (bt m k.toNat).toNat)), (2, vI (k + 1))] [] M Q → sl_At l mX10_sizeOf 4 [(0, vI m), (1, vI a), (2, vI k)] [] M Q := by
    intro k a k0 k1 a0 a1 h
    have := tn_le (bt m k.toNat)
    refine vX10_sizeOf_4 fun _ _ _ _ => ⟨fun q => by omega, fun _ => ?_⟩
    rw [b k k0 k1]
    refine ⟨by omega, fun y ey => ⟨by omega, ?_⟩⟩
    rw [ey]; exact h
  refine eX10_sizeOf (vX10_sizeOf_0 fun _ _ => ?_)
  refine step 0 0 (by omega) (by omega) (by omega) (by omega) ?_
  refine step 1 _ (by omega) (by omega) (by omega) (by simp; omega) ?_
  refine step 2 _ (by omega) (by omega) (by omega) (by simp; omega) ?_
  refine step 3 _ (by omega) (by omega) (by omega) (by simp; omega) ?_
  refine step 4 _ (by omega) (by omega) (by omega) (by simp; omega) ?_
  refine step 5 _ (by omega) (by omega) (by omega) (by simp; omega) ?_
  refine step 6 _ (by omega) (by omega) (by omega) (by simp; omega) ?_
  refine step 7 _ (by omega) (by omega) (by omega) (by simp; omega) ?_
  refine vX10_sizeOf_4 fun _ _ _ _ => ⟨fun _ => ?_, fun q => by omega⟩
  have e : (0 : Int) + ((bt m (0 : Int).toNat).toNat : Int) + ((bt m (1 : Int).toNat).toNat : Int) + ((bt m (2 : Int).toNat).toNat : Int) + ((bt m (3 : Int).toNat).toNat : Int) + ((bt m (4 : Int).toNat).toNat : Int) + ((bt m (5 : Int).toNat).toNat : Int) + ((bt m (6 : Int).toNat).toNat : Int) + ((bt m (7 : Int).toNat).toNat : Int) = (pcn m : Int) := by
    unfold pcn
    simp
  rw [e]
  exact hQ
end K
