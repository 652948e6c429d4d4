/-! What holds between the class and the reference, from call to call -/
/-- the tallies -/
def JT (n : Int) (Mc Mr : sl_M) : Prop := ∀ j, 0 ≤ j → j < 3 → Mc 0 3 j = Mr 1 0 (4 + j) ∧ 0 ≤ Mc 0 3 j ∧ Mc 0 3 j ≤ n
/-- the text -/
def JX (Mc Mr : sl_M) : Prop := Mr 1 0 7 = Mc 0 0 1 ∧ (0 ≤ Mc 0 0 1 ∧ Mc 0 0 1 ≤ 160) ∧ Mr 1 9 = Mc 0 1 ∧ ∀ q, 0 ≤ q → q < Mc 0 0 1 → 0 ≤ Mc 0 1 q
/-- the latest run -/
def JR (Mc Mr : sl_M) : Prop := Mr 1 0 54 = Mc 3 0 2 ∧ Mr 1 0 55 = Mc 3 0 3 ∧ Mr 1 0 56 = Mc 3 0 5 ∧ Mc 3 0 5 ≤ 400 ∧ (∀ k, 0 ≤ k → k < Mc 3 0 5 → Mr 1 58 k = Mc 3 5 k) ∧ Mr 1 0 58 = Mc 4 0 1
/-- where the j-th state back lies: in the class, in the reference -/
abbrev slO (Mc : sl_M) (j : Int) : Nat := 10 + ((Mc 0 0 4 + 8 - j) % 8).toNat
def rwJ (Mr : sl_M) (j : Int) : Int → Int := fun k => if j = 0 then Mr 1 1 k else if 0 ≤ k ∧ k < 990 then Mr 1 2 (990 * ((Mr 1 0 3 + 6 - j) % 6) + k) else 0
/-- the states -/
def JS (rh : Int → Int → Int) (Mc Mr : sl_M) : Prop := (0 ≤ Mc 0 0 4 ∧ Mc 0 0 4 < 8) ∧ (0 ≤ Mc 0 0 5 ∧ Mc 0 0 5 ≤ 6) ∧ Mr 1 0 2 = Mc 0 0 5 ∧ (0 ≤ Mr 1 0 3 ∧ Mr 1 0 3 < 6) ∧ (∀ q, ¬ (0 ≤ q ∧ q < 990) → Mr 1 1 q = 0) ∧ (∀ j, 0 ≤ j → j ≤ Mc 0 0 5 → St Mc (slO Mc j) (rwJ Mr j) (rh j)) ∧ (Mc 6 0 1 = 0 ∨ Sd Mc (ps Mc) (ly (Mr 1 1) (rh 0)))
def Jr (n : Int) (rh : Int → Int → Int) (Mc Mr : sl_M) : Prop := JT n Mc Mr ∧ JX Mc Mr ∧ JR Mc Mr ∧ JS rh Mc Mr
def Jv (n : Int) (Mc Mr : sl_M) : Prop := ∃ rh, Jr n rh Mc Mr
theorem rwJ_0 {Mr : sl_M} : rwJ Mr 0 = Mr 1 1 := by funext k; exact if_pos rfl
theorem slO_0 {Mc : sl_M} (h : 0 ≤ Mc 0 0 4 ∧ Mc 0 0 4 < 8) : slO Mc 0 = ps Mc := by unfold slO ps; omega
section J
variable {n : Int} {rh : Int → Int → Int} {Mc Mr Nc Nr : sl_M}
theorem Jr.ci (h : Jr n rh Mc Mr) : Ci Mc (Mr 1 1) (rh 0) := by
  obtain ⟨-, -, -, h1, h2, h3, h4, h5, h6, h7⟩ := h
  have := h6 0 (by omega) h2.1
  rw [slO_0 h1, rwJ_0] at this
  exact ⟨h1, this, h7⟩
theorem Jr.good (h : Jr n rh Mc Mr) : Good (Mr 1 1) (rh 0) := h.ci.2.1.2.1
theorem Jr.tc (h : Jr n rh Mc Mr) (hn : n ≤ 1000000) : Tc Mc := fun j j0 j1 => by
  have := h.1 j j0 j1; omega
theorem Jr.tl (h : Jr n rh Mc Mr) (hn : n ≤ 1000000) : Tl Mr := fun j j0 j1 => by
  have := h.1 (j - 4) (by omega) (by omega)
  rw [show 4 + (j - 4) = j by omega] at this
  omega
theorem JX.fr (h : JX Mc Mr) (c1 : Nc 0 0 1 = Mc 0 0 1) (c2 : ∀ q, Nc 0 1 q = Mc 0 1 q) (r1 : Nr 1 0 7 = Mr 1 0 7) (r2 : ∀ q, Nr 1 9 q = Mr 1 9 q) : JX Nc Nr := by
  obtain ⟨a, b, c, d⟩ := h
  have e1 : Nc 0 1 = Mc 0 1 := funext c2
  have e2 : Nr 1 9 = Mr 1 9 := funext r2
  unfold JX
  rw [c1, e1, e2, r1]
  exact ⟨a, b, c, d⟩
theorem JR.fr (h : JR Mc Mr) (c1 : ∀ i j, Nc 3 i j = Mc 3 i j) (c2 : Nc 4 0 1 = Mc 4 0 1) (r1 : ∀ j, 54 ≤ j → j ≤ 58 → Nr 1 0 j = Mr 1 0 j) (r2 : ∀ q, Nr 1 58 q = Mr 1 58 q) : JR Nc Nr := by
  obtain ⟨a, b, c, d, e, f⟩ := h
  unfold JR
  rw [c1, c1, c1, c2, r1 54 (by omega) (by omega), r1 55 (by omega) (by omega), r1 56 (by omega) (by omega), r1 58 (by omega) (by omega)]
  exact ⟨a, b, c, d, fun k k0 k1 => by rw [r2, c1]; exact e k k0 k1, f⟩
theorem Sd.fr {s : Nat} {P : Pg} (h : Sd Mc s P) (hN : ∀ i j, Nc 6 i j = Mc 6 i j) : Sd Nc s P := by
  have e3 : Nc 6 3 = Mc 6 3 := funext (hN 3)
  have e4 : Nc 6 4 = Mc 6 4 := funext (hN 4)
  unfold Sd at h ⊢
  rw [hN, e3, e4]; exact h
/-- the states are as they were -/
theorem JS.fr (h : JS rh Mc Mr) (c4 : Nc 0 0 4 = Mc 0 0 4) (c5 : Nc 0 0 5 = Mc 0 0 5) (cS : ∀ o i j, 10 ≤ o → ¬ StA (10 + ((Mc 0 0 4 + 1) % 8).toNat) o → Nc o i j = Mc o i j) (c6 : Nc 6 0 1 = 0 ∨ Sd Nc (ps Mc) (ly (Mr 1 1) (rh 0))) (r2 : Nr 1 0 2 = Mr 1 0 2) (r3 : Nr 1 0 3 = Mr 1 0 3) (r11 : ∀ q, Nr 1 1 q = Mr 1 1 q) (r12 : ∀ q, Nr 1 2 q = Mr 1 2 q) : JS rh Nc Nr := by
  obtain ⟨h1, h2, h3, h4, h5, h6, h7⟩ := h
  have e11 : Nr 1 1 = Mr 1 1 := funext r11
  have ep : ps Nc = ps Mc := by unfold ps; rw [c4]
  unfold JS
  rw [c4, c5, r2, r3, e11, ep]
  refine ⟨h1, h2, h3, h4, h5, fun j j0 j1 => ?_, c6⟩
  have er : rwJ Nr j = rwJ Mr j := by
    funext k
    unfold rwJ
    rw [r3, r11, r12]
  have es : slO Nc j = slO Mc j := by unfold slO; rw [c4]
  rw [er, es]
  refine (h6 j j0 j1).frame (fun o a b z => cS o a b ?_ ?_)
  · unfold StA slO at z; omega
  · unfold StA slO at z
    unfold StA
    omega
/-- a question -/
theorem Jr.ask {r : Int} (h : Jr n rh Mc Mr) (hc : CR Mc Nc (ly (Mr 1 1) (rh 0)) r) (hr : FR Mr Nr r) : Jr (n + 1) rh Nc Nr := by
  obtain ⟨hT, hX, hR, hS⟩ := h
  obtain ⟨f1, f2, f3⟩ := hc
  obtain ⟨g1, g2⟩ := hr
  refine ⟨fun j j0 j1 => ?_, hX.fr (f1 0 0 1 (by omega)) (fun q => f1 0 1 q (by omega)) (g1 1 0 7 (by omega)) (fun q => g1 1 9 q (by omega)), hR.fr (fun i j => f1 3 i j (by omega)) (f1 4 0 1 (by omega)) (fun j j0 j1 => g1 1 0 j (by omega)) (fun q => g1 1 58 q (by omega)), hS.fr (f1 0 0 4 (by omega)) (f1 0 0 5 (by omega)) (fun o i j o0 _ => f1 o i j (by omega)) ?_ (g1 1 0 2 (by omega)) (g1 1 0 3 (by omega)) (fun q => g1 1 1 q (by omega)) (fun q => g1 1 2 q (by omega))⟩
  · obtain ⟨t1, t2, t3⟩ := hT j j0 j1
    rw [f2 j j0 j1, g2 (4 + j) (by omega) (by omega), t1]
    by_cases e : j = r - 1
    · rw [if_pos e, if_pos (by omega)]; omega
    · rw [if_neg e, if_neg (by omega)]; omega
  · have := f3.2.2.2.2
    have ep : ps Nc = ps Mc := by unfold ps; rw [f1 0 0 4 (by omega)]
    rw [ep] at this; exact this
theorem Jr.le {m : Int} (h : Jr n rh Mc Mr) (hm : n ≤ m) : Jr m rh Mc Mr := ⟨fun j j0 j1 => by have := h.1 j j0 j1; omega, h.2⟩
/-- the class and the reference went on to a new state -/
theorem Jr.adv {R2 rho2 : Int → Int} (h : Jr n rh Mc Mr) (hc : CAr Mc Nc R2 rho2) (e2 : ∀ q, Nr 1 1 q = R2 q) (z2 : ∀ q, ¬ (0 ≤ q ∧ q < 990) → R2 q = 0) (r3 : Nr 1 0 3 = (Mr 1 0 3 + 1) % 6) (r2 : Nr 1 0 2 = min (Mr 1 0 2 + 1) 6) (rk : ∀ k, 0 ≤ k → k < 990 → Nr 1 2 (990 * Mr 1 0 3 + k) = Mr 1 1 k) (ro : ∀ j, ¬ (990 * Mr 1 0 3 ≤ j ∧ j < 990 * Mr 1 0 3 + 990) → Nr 1 2 j = Mr 1 2 j) (r9 : ∀ q, Nr 1 9 q = Mr 1 9 q) (r58 : ∀ q, Nr 1 58 q = Mr 1 58 q) (rf : ∀ j, (4 ≤ j ∧ j ≤ 7) ∨ (54 ≤ j ∧ j ≤ 58) → Nr 1 0 j = Mr 1 0 j) : Jv (n + 1) Nc Nr := by
  obtain ⟨hT, hX, hR, h1, h2, h3, h4, h5, h6, h7⟩ := h
  obtain ⟨f1, f4, f5, fC⟩ := hc
  have fl : ∀ o i j, (o = 0 ∧ (i ≠ 0 ∨ (j ≠ 4 ∧ j ≠ 5))) ∨ o = 3 ∨ o = 4 → Nc o i j = Mc o i j := fun o i j z => f1 o i j (by unfold StA; omega)
  have e11 : Nr 1 1 = R2 := funext e2
  refine ⟨fun j => if j = 0 then rho2 else rh (j - 1), fun j j0 j1 => ?_, hX.fr (fl 0 0 1 (by omega)) (fun q => fl 0 1 q (by omega)) (rf 7 (by omega)) r9, hR.fr (fun i j => fl 3 i j (by omega)) (fl 4 0 1 (by omega)) (fun j j0 j1 => rf j (by omega)) r58, ?_⟩
  · obtain ⟨t1, t2, t3⟩ := hT j j0 j1
    rw [fl 0 3 j (by omega), rf (4 + j) (by omega)]; omega
  · refine ⟨by rw [f4]; omega, by rw [f5]; omega, by rw [r2, f5, h3], by rw [r3]; omega, fun q z => by rw [e2]; exact z2 q z, fun j j0 j1 => ?_, ?_⟩
    · rw [f5] at j1
      by_cases ej : j = 0
      · subst ej
        show St Nc (slO Nc 0) (rwJ Nr 0) (if (0 : Int) = 0 then rho2 else rh (0 - 1))
        rw [if_pos rfl, rwJ_0, slO_0 fC.1, e11]
        exact fC.2.1
      · show St Nc (slO Nc j) (rwJ Nr j) (if j = 0 then rho2 else rh (j - 1))
        rw [if_neg ej]
        have es : slO Nc j = slO Mc (j - 1) := by unfold slO; rw [f4]; omega
        have er : rwJ Nr j = rwJ Mr (j - 1) := by
          funext k
          unfold rwJ
          rw [if_neg ej, r3]
          by_cases kr : 0 ≤ k ∧ k < 990
          · rw [if_pos kr]
            by_cases ej1 : j = 1
            · rw [if_pos (by omega), show ((Mr 1 0 3 + 1) % 6 + 6 - j) % 6 = Mr 1 0 3 by omega]
              exact rk k kr.1 kr.2
            · rw [if_neg (by omega), if_pos kr, show ((Mr 1 0 3 + 1) % 6 + 6 - j) % 6 = (Mr 1 0 3 + 6 - (j - 1)) % 6 by omega]
              exact ro _ (by omega)
          · rw [if_neg kr]
            by_cases ej1 : j = 1
            · rw [if_pos (by omega)]; exact (h5 k kr).symm
            · rw [if_neg (by omega), if_neg kr]
        rw [es, er]
        refine (h6 (j - 1) (by omega) (by omega)).frame (fun o a b z => f1 o a b ?_)
        unfold StA slO at z
        unfold StA
        omega
    · show Nc 6 0 1 = 0 ∨ Sd Nc (ps Nc) (ly (Nr 1 1) (if (0 : Int) = 0 then rho2 else rh (0 - 1)))
      rw [if_pos rfl, e11]; exact fC.2.2
/-- the state before -/
theorem Jr.bck (h : Jr n rh Mc Mr) (hz : Mc 0 0 5 ≠ 0) (f1 : ∀ o i j, ¬ ((o = 0 ∧ i = 0 ∧ (j = 4 ∨ j = 5)) ∨ (o = 6 ∧ i = 0 ∧ j = 1)) → Nc o i j = Mc o i j) (f4 : Nc 0 0 4 = (Mc 0 0 4 + 7) % 8) (f5 : Nc 0 0 5 = Mc 0 0 5 - 1) (f6 : Nc 6 0 1 = 0) (g1 : ∀ o i j, ¬ (o = 1 ∧ ((i = 0 ∧ (j = 2 ∨ j = 3)) ∨ (i = 1 ∧ 0 ≤ j ∧ j < 990))) → Nr o i j = Mr o i j) (g3 : Nr 1 0 3 = (Mr 1 0 3 + 5) % 6) (g2 : Nr 1 0 2 = Mr 1 0 2 - 1) (gk : ∀ k, 0 ≤ k → k < 990 → Nr 1 1 k = Mr 1 2 (990 * ((Mr 1 0 3 + 5) % 6) + k)) : Jv (n + 1) Nc Nr := by
  obtain ⟨hT, hX, hR, h1, h2, h3, h4, h5, h6, h7⟩ := h
  refine ⟨fun j => rh (j + 1), fun j j0 j1 => ?_, hX.fr (f1 0 0 1 (by omega)) (fun q => f1 0 1 q (by omega)) (g1 1 0 7 (by omega)) (fun q => g1 1 9 q (by omega)), hR.fr (fun i j => f1 3 i j (by omega)) (f1 4 0 1 (by omega)) (fun j j0 j1 => g1 1 0 j (by omega)) (fun q => g1 1 58 q (by omega)), ?_⟩
  · obtain ⟨t1, t2, t3⟩ := hT j j0 j1
    rw [f1 0 3 j (by omega), g1 1 0 (4 + j) (by omega)]; omega
  · refine ⟨by rw [f4]; omega, by rw [f5]; omega, by rw [g2, f5, h3], by rw [g3]; omega, fun q z => by rw [g1 1 1 q (by omega)]; exact h5 q z, fun j j0 j1 => ?_, Or.inl f6⟩
    rw [f5] at j1
    have es : slO Nc j = slO Mc (j + 1) := by unfold slO; rw [f4]; omega
    have er : rwJ Nr j = rwJ Mr (j + 1) := by
      funext k
      unfold rwJ
      rw [if_neg (show ¬ (j + 1 = 0) by omega), g3]
      by_cases ej : j = 0
      · rw [if_pos ej]
        by_cases kr : 0 ≤ k ∧ k < 990
        · rw [if_pos kr, gk k kr.1 kr.2, show (Mr 1 0 3 + 6 - (j + 1)) % 6 = (Mr 1 0 3 + 5) % 6 by omega]
        · rw [if_neg kr, g1 1 1 k (by omega)]; exact h5 k kr
      · rw [if_neg ej]
        by_cases kr : 0 ≤ k ∧ k < 990
        · rw [if_pos kr, if_pos kr, show ((Mr 1 0 3 + 5) % 6 + 6 - j) % 6 = (Mr 1 0 3 + 6 - (j + 1)) % 6 by omega]
          exact g1 1 2 _ (by omega)
        · rw [if_neg kr, if_neg kr]
    rw [es, er]
    refine (h6 (j + 1) (by omega) (by omega)).frame (fun o a b z => f1 o a b ?_)
    unfold StA slO at z
    omega
end J
