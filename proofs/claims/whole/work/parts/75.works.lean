/-! The reference: what an expression comes to -/
def cS : List (Int × Option Int) → Nat
  | [] => 0
  | (_, none) :: t => cS t
  | (_, some _) :: t => cS t + 1
def cN : List (Int × Option Int) → Nat
  | [] => 0
  | (_, none) :: t => cN t + 1
  | (_, some _) :: t => cN t
theorem cS_le : ∀ w : List (Int × Option Int), cS w ≤ w.length
  | [] => Nat.le_refl _
  | (_, none) :: t => Nat.le_succ_of_le (cS_le t)
  | (_, some _) :: t => Nat.succ_le_succ (cS_le t)
def Wr (N : sl_M) : List (Int × Option Int) → Prop
  | [] => True
  | (o, x) :: t => N 1 63 t.length = o ∧ (match x with | none => N 1 64 t.length = 0 | some y => N 1 64 t.length = 1 ∧ N 1 62 (cS t) = y) ∧ Wr N t
def FWo (M N : sl_M) : Prop := ∀ o i j, ¬ (o = 1 ∧ (i = 62 ∨ i = 63 ∨ i = 64 ∨ (i = 0 ∧ (j = 59 ∨ j = 60)))) → N o i j = M o i j
theorem FWo.tr {M N O : sl_M} (h1 : FWo M N) (h2 : FWo N O) : FWo M O := fun o i j z => (h2 o i j z).trans (h1 o i j z)
theorem Wr.keep {N N' : sl_M} : ∀ (w : List (Int × Option Int)), Wr N w → (∀ i j, (i = 63 ∨ i = 64) → j < (w.length : Int) → N' 1 i j = N 1 i j) → (∀ j, j < (cS w : Int) → N' 1 62 j = N 1 62 j) → Wr N' w := by
  intro w
  induction w with
  | nil => intro _ _ _; trivial
  | cons a t ih =>
    intro h hE hF
    obtain ⟨o, x⟩ := a
    obtain ⟨h1, h2, h3⟩ := h
    have l : (((o, x) :: t).length : Int) = (t.length : Int) + 1 := by simp
    cases x with
    | none =>
      have h2 : N 1 64 t.length = 0 := h2
      exact ⟨by rw [hE 63 _ (by omega) (by omega)]; exact h1, (show N' 1 64 t.length = 0 by rw [hE 64 _ (by omega) (by omega)]; exact h2), ih h3 (fun i j hi hj => hE i j hi (by omega)) (fun j hj => hF j hj)⟩
    | some y =>
      obtain ⟨h2, h4⟩ := (h2 : N 1 64 t.length = 1 ∧ N 1 62 (cS t) = y)
      have lc : (cS ((o, some y) :: t) : Int) = (cS t : Int) + 1 := by simp [cS]
      exact ⟨by rw [hE 63 _ (by omega) (by omega)]; exact h1, (show N' 1 64 t.length = 1 ∧ N' 1 62 (cS t) = y by rw [hE 64 _ (by omega) (by omega), hF _ (by omega)]; exact ⟨h2, h4⟩), ih h3 (fun i j hi hj => hE i j hi (by omega)) (fun j hj => hF j (by omega))⟩
theorem psh_need : ∀ (w : List (Int × Option Int)) (v v' : Int) (w' : List (Int × Option Int)), psh w v = some (w', v') → w'.length ≤ w.length ∧ ((w' = [] ∧ cN w = 0) ∨ (w' ≠ [] ∧ cN w = cN w' + 1)) := by
  intro w
  induction w with
  | nil => intro v v' w' h; rw [psh] at h; cases h; exact ⟨Nat.le_refl _, Or.inl ⟨rfl, rfl⟩⟩
  | cons a t ih =>
    intro v v' w' h
    obtain ⟨o, x⟩ := a
    cases x with
    | none => rw [psh] at h; cases h; exact ⟨by simp, Or.inr ⟨by simp, rfl⟩⟩
    | some y =>
      rw [psh] at h
      by_cases q : opf o v
      · rw [if_pos q] at h; cases h
      · rw [if_neg q] at h
        have r := ih _ _ _ h
        exact ⟨by simp; omega, r.2⟩
section K
variable {l : Launch} {M : sl_M} {Q : sl_R} {k b : Int} {R : Int × Int}
/-- an operand comes -/
theorem works_push (hQ2 : ∀ N, FWo M N → N 1 0 59 = 2 → R.1 = 2 → Q none N) : ∀ (w : List (Int × Option Int)) (N : sl_M) (v i : Int), w.length ≤ 11 → 0 ≤ i → i < 12 → FWo M N → N 1 0 59 = 0 → Wr N w → N 1 62 (cS w) = v → (psh w v = none → R.1 = 2) → (∀ w' v' N', psh w v = some (w', v') → FWo M N' → N' 1 0 59 = 0 → Wr N' w' → (w' = [] → N' 1 62 0 = v') → sl_At l mX10_works 16 [(0, vR 1 0), (1, vI k), (2, vI b), (3, vI (if w' = [] then 1 else (cS w' : Int))), (5, vI (w'.length : Int)), (6, vI (i + 1))] [] N' Q) → sl_At l mX10_works 171 [(0, vR 1 0), (1, vI k), (2, vI b), (3, vI ((cS w : Int) + 1)), (5, vI (w.length : Int)), (6, vI i)] [] N Q := by
  intro w
  induction w with
  | nil =>
    intro N v i hl i0 i1 hf h59 hW hv hN hC
    refine vX10_works_171 fun _ _ _ _ _ _ => ⟨fun _ => ⟨by omega, ?_⟩, fun q => by simp at q⟩
    exact hC [] v N rfl hf h59 hW (fun _ => hv)
  | cons a t ih =>
    intro N v i hl i0 i1 hf h59 hW hv hN hC
    obtain ⟨o, x⟩ := a
    obtain ⟨h1, h2, h3⟩ := hW
    have ll : (((o, x) :: t).length : Int) = (t.length : Int) + 1 := by simp
    have ll' : ((o, x) :: t).length = t.length + 1 := by simp
    have hcs := cS_le t
    rw [ll]
    have e1 : (t.length : Int) + 1 - 1 = t.length := by omega
    have e2 : (t.length : Int) + 1 + (-1) = t.length := by omega
    refine vX10_works_171 fun _ _ _ _ _ _ => ?_
    rw [e1, e2]
    cases x with
    | none =>
      have h2 : N 1 64 t.length = 0 := h2
      rw [h2]
      refine ⟨fun q => by omega, fun q => ⟨by omega, by omega, fun M5 e5 => ?_⟩⟩
      have e64 : M5 1 64 t.length = 1 := by rw [e5, sl_wr_s]; rfl
      rw [e64]
      refine ⟨fun z => by omega, fun _ => ⟨by omega, ?_⟩⟩
      have hv' : N 1 62 (cS t) = v := hv
      have r := hC ((o, some v) :: t) v M5 rfl (hf.tr fun a b d z => by rw [e5]; simp only [sl_wr]; rw [if_neg (by omega)]) (by rw [e5]; simp [sl_wr]; exact h59) ⟨by rw [e5]; simp [sl_wr]; exact h1, (show M5 1 64 t.length = 1 ∧ M5 1 62 (cS t) = v from ⟨e64, by rw [e5]; simp [sl_wr]; exact hv'⟩), h3.keep t (fun b d hb hd => by rw [e5]; simp only [sl_wr]; rw [if_neg (by omega)]) (fun d hd => by rw [e5]; simp only [sl_wr]; rw [if_neg (by omega)])⟩ (fun z => by cases z)
      rw [if_neg (by simp), show (((o, some v) :: t).length : Int) = (t.length : Int) + 1 by simp, show (cS ((o, some v) :: t) : Int) = (cS t : Int) + 1 by simp [cS]] at r
      exact r
    | some y =>
      obtain ⟨h2, h4⟩ := (h2 : N 1 64 t.length = 1 ∧ N 1 62 (cS t) = y)
      have hv' : N 1 62 ((cS t : Int) + 1) = v := by rw [← hv]; simp [cS]
      have hc1 : (cS ((o, some y) :: t) : Int) = (cS t : Int) + 1 := by simp [cS]
      rw [h2, hc1, show (cS t : Int) + 1 + 1 + (-1) = (cS t : Int) + 1 by omega]
      refine ⟨fun q => by omega, fun q => ⟨by omega, by omega, fun M5 e5 => ?_⟩⟩
      have e64 : M5 1 64 t.length = 2 := by rw [e5, sl_wr_s]; rfl
      have e63 : M5 1 63 t.length = o := by rw [e5]; simp [sl_wr]; exact h1
      have e62 : ∀ j, M5 1 62 j = N 1 62 j := fun j => by rw [e5]; simp [sl_wr]
      have f5 : FWo M M5 := hf.tr fun a b d z => by rw [e5]; simp only [sl_wr]; rw [if_neg (by omega)]
      rw [e64, e63, e62, hv']
      have at249 : ¬ opf o v → sl_At l mX10_works 249 [(0, vR 1 0), (1, vI k), (2, vI b), (3, vI ((cS t : Int) + 1)), (4, vI o), (5, vI (t.length : Int)), (6, vI i)] [] M5 Q := by
        intro hf2
        have ep : psh ((o, some y) :: t) v = psh t (opv o y v) := by rw [psh, if_neg hf2]
        rw [ep] at hN
        refine vX10_works_249 fun _ _ _ _ _ _ _ => ?_
        rw [show (cS t : Int) + 1 - 1 = cS t by omega, e62, e62, hv', h4]
        refine ⟨by omega, by omega, kX10_done hf2 ⟨_, rfl, fun M6 e6 => ?_⟩⟩
        refine ih M6 (opv o y v) i (by omega) i0 i1 (f5.tr fun a b d z => by rw [e6]; simp only [sl_wr]; rw [if_neg (by omega)]) (by rw [e6, e5]; simp [sl_wr]; exact h59) (h3.keep t (fun b d hb hd => by rw [e6, e5]; simp only [sl_wr]; rw [if_neg (by omega), if_neg (by omega)]) (fun d hd => by rw [e6, e5]; simp only [sl_wr]; rw [if_neg (by omega), if_neg (by omega)])) (by rw [e6]; exact sl_wr_s) hN (fun w' v' N' z => hC w' v' N' (by rw [ep]; exact z))
      have bad : opf o v → ∀ N2, N2 = sl_wr M5 1 0 59 2 → Q none N2 := fun z N2 e => hQ2 N2 (f5.tr fun a b d z => by rw [e]; simp only [sl_wr]; rw [if_neg (by omega)]) (by rw [e]; exact sl_wr_s) (hN (by rw [psh, if_pos z]))
      refine ⟨fun _ => ⟨by omega, by omega, by omega, fun z => ⟨by omega, fun u => at249 (fun y => u y.2), fun u => bad ⟨Or.inl z, by omega⟩⟩, fun z => ⟨fun u => at249 (fun y => by rcases y.1 with y | y; exact z y; exact u y), fun u => ⟨by omega, fun u2 => at249 (fun y => u2 y.2), fun u2 => bad ⟨Or.inr (by omega), by omega⟩⟩⟩⟩, fun z => by omega⟩
end K
