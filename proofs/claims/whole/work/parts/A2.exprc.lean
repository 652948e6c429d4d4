/-! An expression is read by the class -/
section K
variable {l : Launch} {M : sl_M} {Q : sl_R} {c : Nat}
def FRe (M N : sl_M) (c : Nat) (k q : Int) : Prop := ∀ (o i : Nat) (j : Int), ¬ ((o = 2 ∧ i = 0 ∧ j = 4) ∨ (o = c ∧ ((i = 0 ∧ j = 12) ∨ (i = 11 ∧ q ≤ j) ∨ (i = 9 ∧ j = k) ∨ (i = 10 ∧ j = k)))) → N o i j = M o i j
theorem kX4_readExpression (hc : sl_cls c = 0) (h2 : M 2 0 2 = (c : Int) + 1) (h0 : M 2 0 0 ≠ 0) (h7 : 0 ≤ M 2 0 1 ∧ M 2 0 1 ≤ 160) (h9 : 0 ≤ M 2 0 4 ∧ M 2 0 4 ≤ M 2 0 1) {k q : Int} (hk : 0 ≤ k ∧ k < 40) (hn : M c 0 11 = k + 1) (hq : M c 0 12 = q) (hq0 : 0 ≤ q ∧ q ≤ M 2 0 4) (hl : M c 9 k = 0) (hu : M c 10 k = 0) (S0 : Int → Int) (hQ : ∀ N r, r = exA (M 0 1) (M 2 0 1) 12 0 1 (M 2 0 4) S0 → FRe M N c k q → N 2 0 4 = r.2.1 → N c 9 k = r.2.2.1 → (0 ≤ r.2.2.1 ∧ r.2.2.1 ≤ 12) → N c 0 12 = q + r.2.2.1 → q + r.2.2.1 ≤ r.2.1 → r.2.1 ≤ M 2 0 1 → (∀ i, 0 ≤ i → i < r.2.2.1 → N c 11 (q + i) = r.2.2.2 i) → m8 (N c 10 k) → (∀ v : Nat, v < 8 → (bt (N c 10 k) v = true ↔ ∃ i, 0 ≤ i ∧ i < r.2.2.1 ∧ r.2.2.2 i = 97 + (v : Int))) → Q (some (vI r.1)) N) : sl_Runs l mX4_readExpression [vR 2 0, vI k] M Q := by
  have c2 : c ≠ 2 := fun z => by rw [z] at hc; revert hc; decide +kernel
  have c0 : c ≠ 0 := fun z => by rw [z] at hc; revert hc; decide +kernel
  generalize hr : exA (M 0 1) (M 2 0 1) 12 0 1 (M 2 0 4) S0 = r at *
  have loop : ∀ (n : Nat) (i w : Int) (N : sl_M) (S : Int → Int), i + (n : Int) = 12 → 0 ≤ i → -1 ≤ w → w ≤ i + 1 → FRe M N c k q → (0 ≤ N 2 0 4 ∧ N 2 0 4 ≤ M 2 0 1) → N c 9 k = i → N c 0 12 = q + i → q + i ≤ N 2 0 4 → (∀ a, 0 ≤ a → a < i → N c 11 (q + a) = S a) → m8 (N c 10 k) → (∀ v : Nat, v < 8 → (bt (N c 10 k) v = true ↔ ∃ a, 0 ≤ a ∧ a < i ∧ S a = 97 + (v : Int))) → exA (M 0 1) (M 2 0 1) n i w (N 2 0 4) S = r → sl_At l mX4_readExpression 4 [(0, vR 2 0), (1, vI k), (2, vI w), (3, vI i)] [] N Q := by
    intro n
    induction n with
    | zero =>
      intro i w N S hi i0 w0 w1 fN n4 n9 n12 nq nS n8 nU eR
      have b7 : N 2 0 1 = M 2 0 1 := fN 2 0 1 (by omega)
      have b1 : N 0 1 = M 0 1 := by funext x; exact fN 0 1 x (by omega)
      have b0 : N 2 0 0 = M 2 0 0 := fN 2 0 0 (by omega)
      unfold exA at eR
      by_cases cw : w ≤ 0
      · rw [if_pos cw] at eR
        have hd := hQ N r rfl fN (by rw [← eR]) (by rw [← eR]; exact n9) (by rw [← eR]; show 0 ≤ i ∧ i ≤ 12; omega) (by rw [← eR]; exact n12) (by rw [← eR]; exact nq) (by rw [← eR]; exact n4.2) (by rw [← eR]; exact nS) n8 (by rw [← eR]; exact nU)
        rw [← eR] at hd
        exact vX4_readExpression_4 fun _ _ _ _ => ⟨fun _ => ⟨fun _ => hd, fun z => (z cw).elim⟩, fun z => by omega⟩
      · rw [if_neg cw] at eR
        refine vX4_readExpression_4 fun _ _ _ _ => ⟨fun _ => ⟨fun z => (cw z).elim, fun _ => kX4_look (by rw [b0]; exact h0) (by rw [b7]; exact h7) (by rw [b7]; exact n4) (fun O fO o4 => ⟨_, rfl, ?_⟩)⟩, fun z => by omega⟩
        rw [b7, b1] at o4
        have rr := sp_rng (t := M 0 1) n4.2
        have fO' : FRe M O c k q := fun o i' j z => by rw [fO o i' j (by omega)]; exact fN o i' j z
        have fc : ∀ (i' : Nat) (j : Int), O c i' j = N c i' j := fun i' j => fO c i' j (by omega)
        have hd := hQ O r rfl fO' (by rw [← eR]; exact o4) (by rw [← eR, fc]; exact n9) (by rw [← eR]; show 0 ≤ i ∧ i ≤ 12; omega) (by rw [← eR, fc]; exact n12) (by rw [← eR]; show q + i ≤ sp (M 0 1) (M 2 0 1) (N 2 0 4); omega) (by rw [← eR]; exact rr.2) (by rw [← eR]; intro a a0 a1; rw [fc]; exact nS a a0 a1) (by rw [fc]; exact n8) (by rw [← eR, fc]; exact nU)
        rw [← eR] at hd
        exact hd
    | succ n ih =>
      intro i w N S hi i0 w0 w1 fN n4 n9 n12 nq nS n8 nU eR
      have b7 : N 2 0 1 = M 2 0 1 := fN 2 0 1 (by omega)
      have b1 : N 0 1 = M 0 1 := by funext x; exact fN 0 1 x (by omega)
      have b0 : N 2 0 0 = M 2 0 0 := fN 2 0 0 (by omega)
      unfold exA at eR
      by_cases cw : w ≤ 0
      · rw [if_pos cw] at eR
        have hd := hQ N r rfl fN (by rw [← eR]) (by rw [← eR]; exact n9) (by rw [← eR]; show 0 ≤ i ∧ i ≤ 12; omega) (by rw [← eR]; exact n12) (by rw [← eR]; exact nq) (by rw [← eR]; exact n4.2) (by rw [← eR]; exact nS) n8 (by rw [← eR]; exact nU)
        rw [← eR] at hd
        exact vX4_readExpression_4 fun _ _ _ _ => ⟨fun _ => ⟨fun _ => hd, fun z => (z cw).elim⟩, fun _ => ⟨fun _ => ⟨fun _ => hd, fun z => (z cw).elim⟩, fun z => (z cw).elim⟩⟩
      · rw [if_neg cw] at eR
        refine vX4_readExpression_4 fun _ _ _ _ => ⟨fun z => by omega, fun _ => ⟨fun z => (cw z).elim, fun _ => kX4_look (by rw [b0]; exact h0) (by rw [b7]; exact h7) (by rw [b7]; exact n4) (fun O fO o4 => ⟨_, rfl, fun y11 ey => ?_⟩)⟩⟩
        rw [b7, b1] at ey ⊢
        rw [b7, b1] at o4
        have rr := sp_rng (t := M 0 1) n4.2
        have fO' : FRe M O c k q := fun o i' j z => by rw [fO o i' j (by omega)]; exact fN o i' j z
        have fc : ∀ (i' : Nat) (j : Int), O c i' j = N c i' j := fun i' j => fO c i' j (by omega)
        generalize hcv : ch (M 0 1) (M 2 0 1) (sp (M 0 1) (M 2 0 1) (N 2 0 4)) = cv at *
        have ev : y11 = (if 97 ≤ cv ∧ cv ≤ 104 then cv - 97 else -1) := by
          rw [ey]; unfold sp_var
          by_cases z : 97 ≤ cv ∧ cv ≤ 104
          · rw [if_pos z, if_pos (by omega)]
          · rw [if_neg z, if_neg (by omega)]
        by_cases sy : sym cv
        · rw [if_pos sy] at eR
          have lt := sym_lt (t := M 0 1) (L := M 2 0 1) (p := sp (M 0 1) (M 2 0 1) (N 2 0 4)) (by rw [hcv]; exact sy)
          -- the symbol is put
          have at89 : ∀ (U : sl_M), (∀ (o i' : Nat) (j : Int), ¬ (o = c ∧ i' = 10 ∧ j = k) → U o i' j = O o i' j) → m8 (U c 10 k) → (∀ v : Nat, v < 8 → (bt (U c 10 k) v = true ↔ (bt (N c 10 k) v = true ∨ cv = 97 + (v : Int)))) → sl_At l mX4_readExpression 89 [(0, vR 2 0), (1, vI k), (2, vI (w + (if ¬ (sp_op cv) then (-1) else 1))), (3, vI i), (4, vI cv)] [] U Q := by
            intro U fU u8 uU
            refine vX4_readExpression_89 fun _ _ _ _ _ => ⟨c, ⟨by rw [fU 2 0 2 (by omega), fO' 2 0 2 (by omega)]; exact h2, hc⟩, kX0_put hc (n := k + 1) (q := q + i) (L := i) (by rw [fU c 0 11 (by omega), fO' c 0 11 (by omega)]; exact hn) (by omega) (by rw [fU c 0 12 (by omega), fc]; exact n12) (by omega) (by rw [show k + 1 - 1 = k by omega, fU c 9 k (by omega), fc]; exact n9) (by omega) (fun V fV v12 v11 v9 => ⟨rfl, ?_⟩)⟩
            rw [show k + 1 - 1 = k by omega] at fV v9
            have v4 : V 2 0 4 = sp (M 0 1) (M 2 0 1) (N 2 0 4) := by rw [fV 2 0 4 (by omega), fU 2 0 4 (by omega)]; exact o4
            show sl_rg (V 2 0 4 + 1) ∧ _
            rw [v4]
            refine ⟨by omega, fun X eX => ⟨by omega, ?_⟩⟩
            have fX : ∀ (o i' : Nat) (j : Int), ¬ (o = 2 ∧ i' = 0 ∧ j = 4) → X o i' j = V o i' j := fun o i' j z => by rw [eX]; simp only [sl_wr]; rw [if_neg z]
            have x4 : X 2 0 4 = sp (M 0 1) (M 2 0 1) (N 2 0 4) + 1 := by rw [eX]; exact sl_wr_s
            have x10 : X c 10 k = U c 10 k := by rw [fX c 10 k (by omega), fV c 10 k (by omega)]
            have ew : w + (if ¬ (sp_op cv) then (-1) else 1) = w + (if sp_op cv then 1 else -1) := by
              by_cases z : sp_op cv
              · rw [if_neg (fun y => y z), if_pos z]
              · rw [if_pos z, if_neg z]
            rw [ew]
            refine ih (i + 1) _ X (fun z => if z = i then cv else S z) (by omega) (by omega) (by split <;> omega) (by split <;> omega) (fun o i' j z => ?_) (by rw [x4]; omega) (by rw [fX c 9 k (by omega)]; exact v9) (by rw [fX c 0 12 (by omega), v12]; omega) (by rw [x4]; omega) (fun a a0 a1 => ?_) (by rw [x10]; exact u8) (fun v hv => ?_) (by rw [x4]; exact eR)
            · rw [fX o i' j (by omega), fV o i' j (by omega), fU o i' j (by omega)]; exact fO' o i' j z
            · by_cases ea : a = i
              · rw [if_pos ea, ea, fX c 11 _ (by omega)]; exact v11
              · rw [if_neg ea, fX c 11 _ (by omega), fV c 11 _ (by omega), fU c 11 _ (by omega), fc]; exact nS a a0 (by omega)
            · rw [x10, uU v hv, nU v hv]
              constructor
              · rintro (⟨a, a0, a1, a2⟩ | z)
                · exact ⟨a, a0, by omega, by show (if a = i then cv else S a) = _; rw [if_neg (by omega)]; exact a2⟩
                · exact ⟨i, i0, by omega, by show (if i = i then cv else S i) = _; rw [if_pos rfl]; exact z⟩
              · rintro ⟨a, a0, a1, a2⟩
                have a2' : (if a = i then cv else S a) = 97 + (v : Int) := a2
                by_cases ea : a = i
                · rw [if_pos ea] at a2'; exact Or.inr a2'
                · rw [if_neg ea] at a2'; exact Or.inl ⟨a, a0, by omega, a2'⟩
          have at51 : sl_At l mX4_readExpression 51 [(0, vR 2 0), (1, vI k), (2, vI w), (3, vI i), (4, vI cv), (5, vI y11)] [] O Q := by
            refine vX4_readExpression_51 fun _ _ _ _ _ _ => ⟨by split <;> omega, fun y3 ey3 => ?_⟩
            rw [ey3]
            refine ⟨fun z => at89 O (fun _ _ _ _ => rfl) (by rw [fc]; exact n8) (fun v hv => ?_), fun z => ⟨c, ⟨by rw [fO' 2 0 2 (by omega)]; exact h2, hc⟩, by omega, fun U eU => ?_⟩⟩
            · rw [fc]
              refine ⟨Or.inl, fun y => y.elim id (fun y => ?_)⟩
              rw [ev, if_pos (by omega)] at z; omega
            · have cl : 97 ≤ cv ∧ cv ≤ 104 := Classical.byContradiction fun y => z (by rw [ev, if_neg y])
              rw [if_pos cl] at ev
              have u10 : U c 10 k = ior (N c 10 k) (ishl 1 y11) := by rw [eU, sl_wr_s, fc]
              refine at89 U (fun o i' j y => by rw [eU]; simp only [sl_wr]; rw [if_neg y]) (by rw [u10]; exact m8_or n8 (m8_shl (by omega))) (fun v hv => ?_)
              rw [u10, bt_ior, bt_shl (by omega), Bool.or_eq_true, decide_eq_true_eq]
              constructor
              · rintro (y | y)
                · exact Or.inl y
                · exact Or.inr (by omega)
              · rintro (y | y)
                · exact Or.inl y
                · exact Or.inr (by omega)
          refine ⟨fun _ => at51, fun z1 => ⟨fun _ => at51, fun z2 => ⟨fun _ => at51, fun z3 => ?_⟩⟩⟩
          exfalso
          rcases sy with y | y | y
          · exact z1 y
          · exact z2 y
          · rw [ev, if_pos y] at z3; omega
        · rw [if_neg sy] at eR
          have hd := hQ O r rfl fO' (by rw [← eR]; exact o4) (by rw [← eR, fc]; exact n9) (by rw [← eR]; show 0 ≤ i ∧ i ≤ 12; omega) (by rw [← eR, fc]; exact n12) (by rw [← eR]; show q + i ≤ sp (M 0 1) (M 2 0 1) (N 2 0 4); omega) (by rw [← eR]; exact rr.2) (by rw [← eR]; intro a a0 a1; rw [fc]; exact nS a a0 a1) (by rw [fc]; exact n8) (by rw [← eR, fc]; exact nU)
          rw [← eR] at hd
          refine ⟨fun z => (sy (Or.inl z)).elim, fun _ => ⟨fun z => (sy (Or.inr (Or.inl z))).elim, fun _ => ⟨fun z => ?_, fun _ => hd⟩⟩⟩
          exact (z (by rw [ev, if_neg (fun y => sy (Or.inr (Or.inr y)))])).elim
  exact eX4_readExpression (vX4_readExpression_0 fun _ _ => loop 12 0 1 M S0 (by omega) (by omega) (by omega) (by omega) (fun _ _ _ _ => rfl) h9 hl (by omega) (by omega) (fun a a0 a1 => by omega) (by rw [hu]; exact m8_0) (fun v hv => by rw [hu, bt_0]; exact ⟨(fun z => by cases z), (fun ⟨a, a0, a1, _⟩ => by omega)⟩) hr)
end K
