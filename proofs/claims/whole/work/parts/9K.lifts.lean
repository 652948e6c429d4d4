/-! lifts, on both sides -/
/-- the new calls: where they begin and end, and their renamings -/
def lfK (P : Pg) (i j all : Int) (L : List (Int × (Int → Int))) : List (Int × (Int → Int)) := if all = 1 then L else []
def lfF (cs i : Int) (K : List (Int × (Int → Int))) (c : Int) : Int := if c = cs then i else (K.getD (c - cs - 1).toNat (0, fun _ => -1)).1
def lfE (P : Pg) (cs i j : Int) (K : List (Int × (Int → Int))) (c : Int) : Int := if c = cs then j else lsf P i j (lfF cs i K c)
def lfR (rho : Int → Int) (cs : Int) (K : List (Int × (Int → Int))) (c : Int) : Int := if c < cs then rho c else if c = cs then 16434824 else pkn (K.getD (c - cs - 1).toNat (0, fun _ => -1)).2
section K
variable {l : Launch} {M : sl_M} {Q : sl_R} {rho : Int → Int}
/-- what lifting changes in the reference -/
def FLf (M N : sl_M) : Prop := ∀ o i j, ¬ (o = 1 ∧ ((16 ≤ i ∧ i ≤ 50) ∨ (i = 0 ∧ ((31 ≤ j ∧ j ≤ 45) ∨ j = 2 ∨ j = 3)) ∨ (i = 1 ∧ 761 ≤ j ∧ j < 990) ∨ (i = 2 ∧ 990 * M 1 0 3 ≤ j ∧ j < 990 * M 1 0 3 + 990))) → N o i j = M o i j
theorem lf_cand {R : Int → Int} (hG : Good R rho) {i j : Int} (hs : isp (ly R rho) i j) (hn : ∀ k, i ≤ k → k < ly R rho 3 j → ly R rho 1 k ≠ 7) {all : Int} {a : Nat} {q : Int × (Int → Int)} (hq : (lfK (ly R rho) i j all (tka (ly R rho) i j))[a]? = some q) : (0 ≤ q.1 ∧ q.1 < ly R rho 0 0) ∧ NSp R rho i j q.1 (lsf (ly R rho) i j q.1) (pkn q.2) ∧ Inj q.2 ∧ (∀ v, v ∈ ocf (ly R rho) i j → rn (pkn q.2) v = q.2 v) ∧ (ly R rho 3 j ≤ q.1 ∨ ly R rho 3 (lsf (ly R rho) i j q.1) ≤ i) ∧ all = 1 ∧ (tka (ly R rho) i j)[a]? = some q := by
  unfold lfK at hq
  by_cases c : all = 1
  · rw [if_pos c] at hq
    have me := tks_mem (P := ly R rho) (i := i) (j := j) (ly R rho 0 0).toNat 0 0 q (List.mem_of_getElem? hq)
    have n0 := hG.wf.n0
    have hf : 0 ≤ q.1 ∧ q.1 < ly R rho 0 0 := ⟨me.1, by omega⟩
    have nc := NSp.cand hG hs hn hf me.2.2.2
    exact ⟨hf, nc.1, nc.2.1, nc.2.2.2, (cand_inv me.2.2.2).2.2.2.1, c, hq⟩
  · rw [if_neg c] at hq; simp at hq
theorem kX10_lifts (hG : Good (M 1 1) rho) (ht : Tl M) (h3 : 0 ≤ M 1 0 3 ∧ M 1 0 3 < 6) (h2 : 0 ≤ M 1 0 2 ∧ M 1 0 2 ≤ 6) {i j all : Int} (hB : ¬ (0 ≤ all ∧ all ≤ 1) → ∀ N, FR M N 1 → Q (some (vI (-2))) N) (hNo : (0 ≤ all ∧ all ≤ 1) → ¬ (isp (ly (M 1 1) rho) i j ∧ sB (ly (M 1 1) rho) i j = 0) → ∀ N, FR M N 2 → Q (some (vI (-3))) N) (hFu : (0 ≤ all ∧ all ≤ 1) → (isp (ly (M 1 1) rho) i j ∧ sB (ly (M 1 1) rho) i j = 0) → M 1 1 761 = 3 → ∀ N, FR M N 3 → Q (some (vI (-4))) N) (hQ : (0 ≤ all ∧ all ≤ 1) → (isp (ly (M 1 1) rho) i j ∧ sB (ly (M 1 1) rho) i j = 0) → M 1 1 761 ≠ 3 → ∀ N, FLf M N → N 1 0 3 = (M 1 0 3 + 1) % 6 → N 1 0 2 = min (M 1 0 2 + 1) 6 → (∀ k, 0 ≤ k → k < 990 → N 1 2 (990 * M 1 0 3 + k) = M 1 1 k) → Lft (M 1 1) rho (N 1 1) (lfR rho (M 1 1 789) (lfK (ly (M 1 1) rho) i j all (tka (ly (M 1 1) rho) i j))) i j (lfF (M 1 1 789) i (lfK (ly (M 1 1) rho) i j all (tka (ly (M 1 1) rho) i j))) (lfE (ly (M 1 1) rho) (M 1 1 789) i j (lfK (ly (M 1 1) rho) i j all (tka (ly (M 1 1) rho) i j))) → LfK (M 1 1) (N 1 1) (lfR rho (M 1 1 789) (lfK (ly (M 1 1) rho) i j all (tka (ly (M 1 1) rho) i j))) (lfF (M 1 1 789) i (lfK (ly (M 1 1) rho) i j all (tka (ly (M 1 1) rho) i j))) i (lfK (ly (M 1 1) rho) i j all (tka (ly (M 1 1) rho) i j)) → Rsw (M 1 1) (N 1 1) → Q (some (vI (1 + (lfK (ly (M 1 1) rho) i j all (tka (ly (M 1 1) rho) i j)).length))) N) : sl_Runs l mX10_lifts [vR 1 0, vI i, vI j, vI all] M Q := by
  have hr := hG.rda
  have hw := hG.wf
  have hw2 := hG.wf2
  have m3 := hG.2.1
  have cs0 := hG.2.2.2.1
  refine eX10_lifts (vX10_lifts_0 fun _ _ _ _ => kX10_lays hr.1 hr.2.1 fun N1 f1 la1 la2 => ⟨rfl, fun za => ?_, fun za => kX10_bad (f1.fq.tl ht) (fun O f2 => ⟨_, rfl, hB za O (f1.fq.ref f2)⟩)⟩)
  have er1 : N1 1 1 = M 1 1 := f1.fq.row
  refine kX10_isSpan hw la1.1 ⟨_, rfl, fun zs => ?_, fun zs => kX10_no (f1.fq.tl ht) (fun O f2 => ⟨_, rfl, hNo za (fun w => isp_no zs w.1) O (f1.fq.ref f2)⟩)⟩
  have hs := isp_yes zs
  have hs' := hs
  refine kX10_laysAlike (M := N1) (rho := rho) (by rw [er1]; exact hG) (by rw [er1]; exact la1) (by rw [er1]; exact hs) (fun N2 f2 sp tl => ⟨rfl, ?_⟩)
  rw [er1] at sp tl
  have er2 : N2 1 1 = M 1 1 := by rw [f2.row, er1]
  have fq2 : FQ M N2 := f1.fq.tr (fun o a b zz => f2 o a b (by omega))
  have la2' : LaB N2 0 (ly (M 1 1) rho) := f2.laf hw la1
  show (N2 1 0 37 = 0 → _) ∧ (¬ (N2 1 0 37 = 0) → _)
  rw [sp.2.2.2.2.2.1, er2]
  refine ⟨fun zb => ⟨fun zm => ?_, fun zm => kX10_full (fq2.tl ht) (fun O f3 => ⟨_, rfl, hFu za ⟨hs, zb⟩ (by omega) O (fq2.ref f3)⟩)⟩, fun zb => kX10_no (fq2.tl ht) (fun O f3 => ⟨_, rfl, hNo za (fun w => zb w.2) O (fq2.ref f3)⟩)⟩
  -- it is lifted
  have hn : ∀ k, i ≤ k → k < ly (M 1 1) rho 3 j → ly (M 1 1) rho 1 k ≠ 7 := by
    intro k k0 k1 k7
    unfold sB at zb
    rw [cif1 ⟨k, k0, k1, k7⟩] at zb; omega
  obtain ⟨s1, s2, s3, s4, s5⟩ := hs
  have aj := hw.af (k := j) (by omega) s3
  have n0 := hw.n0
  have c40 := cnt40 hG hs' hn
  have hKlen : (lfK (ly (M 1 1) rho) i j all (tka (ly (M 1 1) rho) i j)).length ≤ (tka (ly (M 1 1) rho) i j).length := by
    unfold lfK; split
    · exact Nat.le_refl _
    · exact Nat.zero_le _
  refine kX10_keepsState (by rw [fq2 1 0 3 (by omega)]; exact h3) (by rw [fq2 1 0 2 (by omega)]; exact h2) (fun N9 k1 k2 k3 k4 => ⟨rfl, ?_⟩)
  rw [fq2 1 0 3 (by omega)] at k1 k2 k4
  rw [fq2 1 0 2 (by omega)] at k3
  have er9 : N9 1 1 = M 1 1 := by funext q; rw [k1 1 1 q (by omega), er2]
  have la9 : LaB N9 0 (ly (M 1 1) rho) := la2'.eq hw (fun a b z => k1 1 a b (by unfold inB at z; omega))
  have kp : ∀ a b, 3 ≤ a → N9 1 a b = N2 1 a b := fun a b ha => k1 1 a b (by omega)
  have kf : ∀ b, 4 ≤ b → N9 1 0 b = N2 1 0 b := fun b hb => k1 1 0 b (by omega)
  show sl_RI l mX10_listOf [vR 1 0, vI (N9 1 0 34), vI 0] N9 _
  rw [kf 34 (by omega), sp.2.2.2.1]
  have pc9 := pr_cong (R' := N9 1 1) hG (fun q _ _ => by rw [er9]) (fun q _ _ => by rw [er9]) (fun m _ _ => by rw [er9]; exact ⟨rfl, rfl, rfl, fun _ _ _ => rfl⟩)
  refine kX10_listOf hw la9.1 la9.2.1 pc9.1 pc9.2 (i := i) (t := ly (M 1 1) rho 3 j) (by omega) ⟨s1, by omega, aj.2⟩ (by rw [kf 31 (by omega)]; exact sp.1) (by rw [kf 32 (by omega)]; exact sp.2.1) (fun N10 g1 g2 => ⟨_, rfl, ?_⟩)
  rw [er9]
  refine ⟨by omega, fun M13 e13 => ?_⟩
  rw [g2] at e13
  have r10 : N10 1 1 = M 1 1 := by funext q; rw [g1 1 1 q (by omega), er9]
  have r13 : ∀ q, q ≠ 771 + M 1 1 761 → M13 1 1 q = M 1 1 q := fun q hq => by rw [e13]; simp only [sl_wr]; rw [if_neg (by omega), r10]
  have la13 : LaB M13 0 (ly (M 1 1) rho) := la9.eq hw (fun a b z => by
    unfold inB at z
    rw [e13]; simp only [sl_wr]; rw [if_neg (by omega)]; exact g1 1 a b (by omega))
  have c13 : ∀ b, ¬ (42 ≤ b ∧ b ≤ 44) → M13 1 0 b = N9 1 0 b := fun b hb => by rw [e13]; simp only [sl_wr]; rw [if_neg (by omega)]; exact g1 1 0 b (by omega)
  show sl_RI l mX10_listOf [vR 1 0, vI (M13 1 0 35), vI 0] M13 _
  rw [c13 35 (by omega), kf 35 (by omega), sp.2.2.2.2.1]
  have pc13 := pr_cong (R' := M13 1 1) hG (fun q _ _ => r13 q (by omega)) (fun q _ _ => r13 q (by omega)) (fun m mm0 mm1 => ⟨r13 _ (by omega), r13 _ (by omega), r13 _ (by omega), fun x x0 x1 => r13 _ (by omega)⟩)
  refine kX10_listOf hw la13.1 la13.2.1 pc13.1 pc13.2 (i := i) (t := ly (M 1 1) rho 3 j) (by omega) ⟨s1, by omega, aj.2⟩ (by rw [c13 31 (by omega), kf 31 (by omega)]; exact sp.1) (by rw [c13 32 (by omega), kf 32 (by omega)]; exact sp.2.1) (fun N14 j1 j2 => ⟨_, rfl, by omega, fun M17 e17 => ⟨by omega, fun M19 e19 => ⟨by omega, by omega, fun M22 e22 => ⟨by omega, by omega, fun M25 e25 => ?_⟩⟩⟩⟩)
  rw [j2] at e17
  have v33 : M17 1 0 33 = sX (ly (M 1 1) rho) i (ly (M 1 1) rho 3 j - 1) := by
    rw [e17]; simp only [sl_wr]; rw [if_neg (by omega), j1 1 0 33 (by omega), c13 33 (by omega), kf 33 (by omega)]; exact sp.2.2.1
  have nd21 : ∀ k, 0 ≤ k → k < ly (M 1 1) rho 0 0 → M13 1 21 k = tk (M 1 1) k := fun k k0 k1 => by have := (la13.2.1 k k0 k1).1; rw [Int.zero_add] at this; exact this
  have v21i : M19 1 21 i = tk (M 1 1) i := by
    rw [e19, e17]; simp only [sl_wr]; rw [if_neg (by omega), if_neg (by omega), j1 1 21 i (by omega)]; exact nd21 i s1 (by omega)
  have v21j : M22 1 21 j = tk (M 1 1) j := by
    rw [e22, e19, e17]; simp only [sl_wr]; rw [if_neg (by omega), if_neg (by omega), if_neg (by omega), j1 1 21 j (by omega)]; exact nd21 j (by omega) s3
  rw [v33] at e19
  rw [v21i] at e22
  rw [v21j] at e25
  have f25 : ∀ o a b, ¬ (o = 1 ∧ ((a = 1 ∧ (b = 762 + M 1 1 761 ∨ b = 765 + M 1 1 761 ∨ b = 768 + M 1 1 761 ∨ b = 771 + M 1 1 761 ∨ b = 774 + M 1 1 761)) ∨ (a = 0 ∧ 42 ≤ b ∧ b ≤ 44))) → M25 o a b = N9 o a b := fun o a b zz => by
    rw [e25, e22, e19, e17]; simp only [sl_wr]; rw [if_neg (by omega), if_neg (by omega), if_neg (by omega), if_neg (by omega), j1 o a b (by omega), e13]; simp only [sl_wr]; rw [if_neg (by omega)]; exact g1 o a b (by omega)
  have w762 : M25 1 1 (762 + M 1 1 761) = tk (M 1 1) i := by rw [e25, e22]; simp only [sl_wr]; rw [if_neg (by omega), if_pos (by simp)]
  have w765 : M25 1 1 (765 + M 1 1 761) = tk (M 1 1) j := by rw [e25, sl_wr_s]
  have w768 : M25 1 1 (768 + M 1 1 761) = sX (ly (M 1 1) rho) i (ly (M 1 1) rho 3 j - 1) := by rw [e25, e22, e19]; simp only [sl_wr]; rw [if_neg (by omega), if_neg (by omega), if_pos (by simp)]
  have w774 : M25 1 1 (774 + M 1 1 761) = lpk (od (sO (ly (M 1 1) rho) i j) [] (ocf (ly (M 1 1) rho) i j)) := by rw [e25, e22, e19, e17]; simp only [sl_wr]; rw [if_neg (by omega), if_neg (by omega), if_neg (by omega), if_pos (by simp)]
  have w771 : M25 1 1 (771 + M 1 1 761) = lpk (od (sI (ly (M 1 1) rho) i j) [] (ocf (ly (M 1 1) rho) i j)) := by rw [e25, e22, e19, e17]; simp only [sl_wr]; rw [if_neg (by omega), if_neg (by omega), if_neg (by omega), if_neg (by omega), j1 1 1 _ (by omega), e13, sl_wr_s]
  obtain ⟨o8, l1, l2, mi, mo⟩ := lists_sp hG hs' hn zb
  -- everything that is kept, from here on
  have must39 : ∀ x, 0 ≤ x → x < 4 → ∃ e, e4 e ∧ sp_place e = x := by
    intro x x0 x1
    have : x = 0 ∨ x = 1 ∨ x = 2 ∨ x = 3 := by omega
    rcases this with e | e | e | e
    · exact ⟨1, Or.inl rfl, by rw [e]; rfl⟩
    · exact ⟨2, Or.inr (Or.inl rfl), by rw [e]; rfl⟩
    · exact ⟨4, Or.inr (Or.inr (Or.inl rfl)), by rw [e]; rfl⟩
    · exact ⟨8, Or.inr (Or.inr (Or.inr rfl)), by rw [e]; rfl⟩
  -- the calls of spans that are alike
  have alk : ∀ (n : Nat) (a : Nat) (N : sl_M), a + n = (lfK (ly (M 1 1) rho) i j all (tka (ly (M 1 1) rho) i j)).length → (∀ o q b, ¬ (o = 1 ∧ q = 1 ∧ (b = 761 ∨ (777 ≤ b ∧ b < 990))) → N o q b = M25 o q b) → N 1 1 761 = M 1 1 761 + 1 → (∀ m, 0 ≤ m → m < 3 → m ≠ M 1 1 761 → ∀ x, 0 ≤ x → x < 4 → N 1 1 (777 + 4 * m + x) = M 1 1 (777 + 4 * m + x)) → (∀ e, e4 e → N 1 1 (777 + 4 * M 1 1 761 + sp_place e) = cif (xE (ly (M 1 1) rho) i (ly (M 1 1) rho 3 j - 1) e) (msk fun v => ¬ mU (ly (M 1 1) rho) i (ly (M 1 1) rho 3 j - 1) e v) 255) → N 1 1 789 = M 1 1 789 + 1 + a → (∀ c, 0 ≤ c → c < 40 → ¬ (M 1 1 789 ≤ c ∧ c < M 1 1 789 + 1 + a) → N 1 1 (790 + c) = M 1 1 (790 + c) ∧ N 1 1 (830 + c) = M 1 1 (830 + c) ∧ N 1 1 (870 + c) = M 1 1 (870 + c) ∧ N 1 1 (910 + c) = M 1 1 (910 + c) ∧ N 1 1 (950 + c) = M 1 1 (950 + c)) → (∀ c, M 1 1 789 ≤ c → c < M 1 1 789 + 1 + a → NCl (M 1 1) rho (N 1 1) i j c (lfF (M 1 1 789) i (lfK (ly (M 1 1) rho) i j all (tka (ly (M 1 1) rho) i j)) c) (lfE (ly (M 1 1) rho) (M 1 1 789) i j (lfK (ly (M 1 1) rho) i j all (tka (ly (M 1 1) rho) i j)) c) (lfR rho (M 1 1 789) (lfK (ly (M 1 1) rho) i j all (tka (ly (M 1 1) rho) i j)) c)) → sl_At l mX10_lifts 273 [(0, vR 1 0), (3, vI all), (4, vI (M 1 1 761)), (5, vI (a : Int))] [] N Q := by
    intro n
    induction n with
    | zero =>
      intro a N ha hF h761 hms hmu h789 hold hnew
      -- the row is as it must be
      have hlen : a = (lfK (ly (M 1 1) rho) i j all (tka (ly (M 1 1) rho) i j)).length := by omega
      have row : ∀ q, ¬ (q = 761 ∨ (777 ≤ q ∧ q < 990) ∨ q = 762 + M 1 1 761 ∨ q = 765 + M 1 1 761 ∨ q = 768 + M 1 1 761 ∨ q = 771 + M 1 1 761 ∨ q = 774 + M 1 1 761) → N 1 1 q = M 1 1 q := fun q hq => by rw [hF 1 1 q (by omega), f25 1 1 q (by omega), er9]
      have LF : Lft (M 1 1) rho (N 1 1) (lfR rho (M 1 1 789) (lfK (ly (M 1 1) rho) i j all (tka (ly (M 1 1) rho) i j))) i j (lfF (M 1 1 789) i (lfK (ly (M 1 1) rho) i j all (tka (ly (M 1 1) rho) i j))) (lfE (ly (M 1 1) rho) (M 1 1 789) i j (lfK (ly (M 1 1) rho) i j all (tka (ly (M 1 1) rho) i j))) := by
        refine ⟨fun q q0 q1 => row q (by omega), h761, by omega, fun k k0 k1 => ⟨row _ (by omega), row _ (by omega), row _ (by omega), row _ (by omega), row _ (by omega), fun x x0 x1 => hms k k0 (by omega) (by omega) x x0 x1⟩, ⟨by rw [hF 1 1 _ (by omega)]; exact w762, by rw [hF 1 1 _ (by omega)]; exact w765, by rw [hF 1 1 _ (by omega)]; exact w768, by rw [hF 1 1 _ (by omega)]; exact w771, by rw [hF 1 1 _ (by omega)]; exact w774, hmu⟩, by omega, fun c c0 c1 => ⟨by unfold lfR; rw [if_pos c1], hold c c0 (by omega) (by omega)⟩, fun c c0 c1 => hnew c c0 (by omega), fun c d c0 c1 d0 d1 hcd => ?_, hs', hn, zb⟩
        -- they stand apart
        have gK : ∀ c, M 1 1 789 < c → c < N 1 1 789 → ∃ q, (lfK (ly (M 1 1) rho) i j all (tka (ly (M 1 1) rho) i j))[(c - M 1 1 789 - 1).toNat]? = some q ∧ lfF (M 1 1 789) i (lfK (ly (M 1 1) rho) i j all (tka (ly (M 1 1) rho) i j)) c = q.1 := by
          intro c c0 c1
          have hlt : (c - M 1 1 789 - 1).toNat < (lfK (ly (M 1 1) rho) i j all (tka (ly (M 1 1) rho) i j)).length := by omega
          refine ⟨_, List.getElem?_eq_getElem hlt, ?_⟩
          unfold lfF
          rw [if_neg (by omega), List.getD_eq_getElem?_getD, List.getElem?_eq_getElem hlt]; rfl
        have szK : ∀ (q : Int × (Int → Int)) (a : Nat), (lfK (ly (M 1 1) rho) i j all (tka (ly (M 1 1) rho) i j))[a]? = some q → ly (M 1 1) rho 3 (lsf (ly (M 1 1) rho) i j q.1) = q.1 + (ly (M 1 1) rho 3 j - i) := fun q a hq => by have := (lf_cand hG hs' hn hq).2.1.2.2.1; omega
        have pair : ∀ c d, M 1 1 789 ≤ c → c < N 1 1 789 → c < d → d < N 1 1 789 → ly (M 1 1) rho 3 (lfE (ly (M 1 1) rho) (M 1 1 789) i j (lfK (ly (M 1 1) rho) i j all (tka (ly (M 1 1) rho) i j)) c) ≤ lfF (M 1 1 789) i (lfK (ly (M 1 1) rho) i j all (tka (ly (M 1 1) rho) i j)) d ∨ ly (M 1 1) rho 3 (lfE (ly (M 1 1) rho) (M 1 1 789) i j (lfK (ly (M 1 1) rho) i j all (tka (ly (M 1 1) rho) i j)) d) ≤ lfF (M 1 1 789) i (lfK (ly (M 1 1) rho) i j all (tka (ly (M 1 1) rho) i j)) c := by
          intro c d c0 c1 cd d1
          obtain ⟨qd, hqd, ed⟩ := gK d (by omega) d1
          have ld := lf_cand hG hs' hn hqd
          have eE : lfE (ly (M 1 1) rho) (M 1 1 789) i j (lfK (ly (M 1 1) rho) i j all (tka (ly (M 1 1) rho) i j)) d = lsf (ly (M 1 1) rho) i j qd.1 := by unfold lfE; rw [if_neg (by omega), ed]
          rw [ed, eE]
          by_cases ec : c = M 1 1 789
          · have e1 : lfF (M 1 1 789) i (lfK (ly (M 1 1) rho) i j all (tka (ly (M 1 1) rho) i j)) c = i := by unfold lfF; rw [if_pos ec]
            have e2 : lfE (ly (M 1 1) rho) (M 1 1 789) i j (lfK (ly (M 1 1) rho) i j all (tka (ly (M 1 1) rho) i j)) c = j := by unfold lfE; rw [if_pos ec]
            rw [e1, e2]; exact ld.2.2.2.2.1
          · obtain ⟨qc, hqc, ec'⟩ := gK c (by omega) c1
            have lc := lf_cand hG hs' hn hqc
            have eEc : lfE (ly (M 1 1) rho) (M 1 1 789) i j (lfK (ly (M 1 1) rho) i j all (tka (ly (M 1 1) rho) i j)) c = lsf (ly (M 1 1) rho) i j qc.1 := by unfold lfE; rw [if_neg ec, ec']
            rw [eEc, ec', szK qc _ hqc]
            exact Or.inl (tks_apart (P := ly (M 1 1) rho) (i := i) (j := j) (ly (M 1 1) rho 0 0).toNat 0 0 _ _ qc qd (by omega) lc.2.2.2.2.2.2 ld.2.2.2.2.2.2)
        by_cases cd : c < d
        · exact pair c d c0 c1 cd d1
        · exact (pair d c d0 d1 (by omega) c1).symm
      have LK : LfK (M 1 1) (N 1 1) (lfR rho (M 1 1 789) (lfK (ly (M 1 1) rho) i j all (tka (ly (M 1 1) rho) i j))) (lfF (M 1 1 789) i (lfK (ly (M 1 1) rho) i j all (tka (ly (M 1 1) rho) i j))) i (lfK (ly (M 1 1) rho) i j all (tka (ly (M 1 1) rho) i j)) := by
        refine ⟨by omega, by unfold lfF; rw [if_pos rfl], by unfold lfR; rw [if_neg (by omega), if_pos rfl], fun a q hq => ?_⟩
        have lc := lf_cand hG hs' hn hq
        refine ⟨?_, ?_, pkn_ne lc.2.2.1.1⟩
        · unfold lfF
          rw [if_neg (by omega), show (M 1 1 789 + 1 + (a : Int) - M 1 1 789 - 1).toNat = a by omega, List.getD_eq_getElem?_getD, hq]; rfl
        · unfold lfR
          rw [if_neg (by omega), if_neg (by omega), show (M 1 1 789 + 1 + (a : Int) - M 1 1 789 - 1).toNat = a by omega, List.getD_eq_getElem?_getD, hq]; rfl
      have fin : Q (some (vI (1 + (lfK (ly (M 1 1) rho) i j all (tka (ly (M 1 1) rho) i j)).length))) N := by
        refine hQ za ⟨hs', zb⟩ zm N (fun o q b zz => ?_) ?_ ?_ (fun k k0 k1' => ?_) LF LK ⟨fun k k2 k0 k1 => ⟨row _ (by omega), row _ (by omega), row _ (by omega), row _ (by omega), row _ (by omega), fun x x0 x1 => hms k k0 k1 (by omega) x x0 x1⟩, fun c c2 c0 c1 => hold c c0 c1 (by omega), fun q zz => row q (by omega)⟩
        · rw [hF o q b (by omega), f25 o q b (by omega), k1 o q b (by omega)]; exact fq2 o q b (by omega)
        · rw [hF 1 0 3 (by omega), f25 1 0 3 (by omega)]; exact k2
        · rw [hF 1 0 2 (by omega), f25 1 0 2 (by omega)]; exact k3
        · rw [hF 1 2 _ (by omega), f25 1 2 _ (by omega), k4 k k0 k1', er2]
      have n45 : N 1 0 45 = (tka (ly (M 1 1) rho) i j).length := by rw [hF 1 0 45 (by omega), f25 1 0 45 (by omega), kf 45 (by omega)]; exact tl.1
      refine vX10_lifts_273 fun _ _ _ _ => ?_
      rw [n45]
      by_cases ca1 : all = 1
      · have eK : lfK (ly (M 1 1) rho) i j all (tka (ly (M 1 1) rho) i j) = tka (ly (M 1 1) rho) i j := by unfold lfK; rw [if_pos ca1]
        rw [eK] at hlen fin
        refine ⟨fun _ => ⟨by split <;> omega, ?_⟩, fun z => by omega⟩
        rw [if_neg (fun w => w ca1)]; exact fin
      · have eK : lfK (ly (M 1 1) rho) i j all (tka (ly (M 1 1) rho) i j) = [] := by unfold lfK; rw [if_neg ca1]
        rw [eK] at hlen fin
        have f0 : Q (some (vI 1)) N := fin
        refine ⟨fun _ => ⟨by split <;> omega, by rw [if_pos ca1]; exact f0⟩, fun z => ⟨fun _ => ⟨by split <;> omega, by rw [if_pos ca1]; exact f0⟩, fun w => (w ca1).elim⟩⟩
    | succ n ih =>
      intro a N ha hF h761 hms hmu h789 hold hnew
      have hlt : a < (lfK (ly (M 1 1) rho) i j all (tka (ly (M 1 1) rho) i j)).length := by omega
      have hq := List.getElem?_eq_getElem hlt
      have lc := lf_cand hG hs' hn hq
      have ca1 := lc.2.2.2.2.2.1
      have tq := tl.2 a _ lc.2.2.2.2.2.2
      have eK : lfK (ly (M 1 1) rho) i j all (tka (ly (M 1 1) rho) i j) = tka (ly (M 1 1) rho) i j := by unfold lfK; rw [if_pos ca1]
      have back : ∀ q b, 3 ≤ q → N 1 q b = N2 1 q b := fun q b hq' => by rw [hF 1 q b (by omega), f25 1 q b (by omega)]; exact kp q b hq'
      have n45 : N 1 0 45 = (tka (ly (M 1 1) rho) i j).length := by rw [hF 1 0 45 (by omega), f25 1 0 45 (by omega), kf 45 (by omega)]; exact tl.1
      have laN : LaB N 0 (ly (M 1 1) rho) := la2'.eq hw (fun q b z => back q b (by unfold inB at z; omega))
      have n771 : N 1 1 (771 + M 1 1 761) = lpk (od (sI (ly (M 1 1) rho) i j) [] (ocf (ly (M 1 1) rho) i j)) := by rw [hF 1 1 _ (by omega)]; exact w771
      have n774 : N 1 1 (774 + M 1 1 761) = lpk (od (sO (ly (M 1 1) rho) i j) [] (ocf (ly (M 1 1) rho) i j)) := by rw [hF 1 1 _ (by omega)]; exact w774
      have e47 : N 1 47 a = ((lfK (ly (M 1 1) rho) i j all (tka (ly (M 1 1) rho) i j))[a]).1 := by rw [back 47 a (by omega)]; exact tq.1
      have e48 : N 1 48 a = ly (M 1 1) rho 3 (lsf (ly (M 1 1) rho) i j ((lfK (ly (M 1 1) rho) i j all (tka (ly (M 1 1) rho) i j))[a]).1) - 1 := by
        rw [back 48 a (by omega), tq.2.1]
        have := lc.2.1.2.2.1; omega
      have e21 : N 1 21 ((lfK (ly (M 1 1) rho) i j all (tka (ly (M 1 1) rho) i j))[a]).1 = tk (M 1 1) ((lfK (ly (M 1 1) rho) i j all (tka (ly (M 1 1) rho) i j))[a]).1 := by have := (laN.2.1 _ lc.1.1 lc.1.2).1; rw [Int.zero_add] at this; exact this
      have alen : (a : Int) < 39 := by omega
      refine vX10_lifts_273 fun _ _ _ _ => ?_
      rw [n45]
      refine ⟨fun z => by rw [eK] at hlt; omega, fun _ => ⟨fun z => (z ca1).elim, fun _ => ⟨by omega, by rw [e47]; have := lc.1; omega, ?_⟩⟩⟩
      refine kX10_lastTold hw hw2 laN.1 laN.2.1 (by omega) lc.2.1.1 e47 e48 ⟨_, rfl, by omega, ?_⟩
      show sl_RI l mX10_answeredList [vR 1 0, vI (N 1 1 (771 + M 1 1 761)), vI (a : Int)] N _
      rw [n771]
      have ans : ∀ v, v ∈ ocf (ly (M 1 1) rho) i j → N 1 49 (8 * a + v) = ((lfK (ly (M 1 1) rho) i j all (tka (ly (M 1 1) rho) i j))[a]).2 v := fun v hv => by
        have v8 := o8 v hv
        rw [back 49 _ (by omega)]; exact tq.2.2 v v8.1 v8.2
      have sub : ∀ set v, v ∈ od set [] (ocf (ly (M 1 1) rho) i j) → v ∈ ocf (ly (M 1 1) rho) i j := fun set v hv => by
        rcases (od_mem _ _ _).mp hv with z | z
        · cases z
        · exact z.1
      have mapr : ∀ set, (od set [] (ocf (ly (M 1 1) rho) i j)).map ((lfK (ly (M 1 1) rho) i j all (tka (ly (M 1 1) rho) i j))[a]).2 = rnl (pkn ((lfK (ly (M 1 1) rho) i j all (tka (ly (M 1 1) rho) i j))[a]).2) (od set [] (ocf (ly (M 1 1) rho) i j)) := fun set => List.map_congr_left (fun v hv => (lc.2.2.2.1 v (sub set v hv)).symm)
      refine kX10_answeredList (to := ((lfK (ly (M 1 1) rho) i j all (tka (ly (M 1 1) rho) i j))[a]).2) l1 (od_8 o8) (by omega) (fun v hv => ans v (sub _ v hv)) ⟨_, rfl, by omega, ?_⟩
      show sl_RI l mX10_answeredList [vR 1 0, vI (N 1 1 (774 + M 1 1 761)), vI (a : Int)] N _
      rw [n774]
      refine kX10_answeredList (to := ((lfK (ly (M 1 1) rho) i j all (tka (ly (M 1 1) rho) i j))[a]).2) (by omega) (od_8 o8) (by omega) (fun v hv => ans v (sub _ v hv)) ⟨_, rfl, ?_⟩
      rw [mapr, mapr, e47, e21]
      refine kX10_calls (by omega) (fun N' c1 c2 c3 c4 c5 c6 c7 => ⟨rfl, by omega, ?_⟩)
      rw [h789] at c1 c2 c3 c4 c5 c6 c7
      have := ih (a + 1) N' (by omega) (fun o q b zz => by rw [c1 o q b (by omega)]; exact hF o q b zz) (by rw [c1 1 1 761 (by omega)]; exact h761) (fun m mm0 mm1 mm2 x x0 x1 => by rw [c1 1 1 _ (by omega)]; exact hms m mm0 mm1 mm2 x x0 x1) (fun e he => by have := sp_bd (e := e); rw [c1 1 1 _ (by omega)]; exact hmu e he) (by rw [c2]; omega) (fun c cc0 cc1 cc2 => ?_) (fun c cc0 cc1 => ?_)
      · rw [show ((a + 1 : Nat) : Int) = (a : Int) + 1 by omega] at this; exact this
      · rw [c1 1 1 (790 + c) (by omega), c1 1 1 (830 + c) (by omega), c1 1 1 (870 + c) (by omega), c1 1 1 (910 + c) (by omega), c1 1 1 (950 + c) (by omega)]
        exact hold c cc0 cc1 (by omega)
      · by_cases ec : c = M 1 1 789 + 1 + a
        · subst ec
          have eF : lfF (M 1 1 789) i (lfK (ly (M 1 1) rho) i j all (tka (ly (M 1 1) rho) i j)) (M 1 1 789 + 1 + a) = ((lfK (ly (M 1 1) rho) i j all (tka (ly (M 1 1) rho) i j))[a]).1 := by
            unfold lfF
            rw [if_neg (by omega), show (M 1 1 789 + 1 + (a : Int) - M 1 1 789 - 1).toNat = a by omega, List.getD_eq_getElem?_getD, hq]; rfl
          have eR : lfR rho (M 1 1 789) (lfK (ly (M 1 1) rho) i j all (tka (ly (M 1 1) rho) i j)) (M 1 1 789 + 1 + a) = pkn ((lfK (ly (M 1 1) rho) i j all (tka (ly (M 1 1) rho) i j))[a]).2 := by
            unfold lfR
            rw [if_neg (by omega), if_neg (by omega), show (M 1 1 789 + 1 + (a : Int) - M 1 1 789 - 1).toNat = a by omega, List.getD_eq_getElem?_getD, hq]; rfl
          have eE : lfE (ly (M 1 1) rho) (M 1 1 789) i j (lfK (ly (M 1 1) rho) i j all (tka (ly (M 1 1) rho) i j)) (M 1 1 789 + 1 + a) = lsf (ly (M 1 1) rho) i j ((lfK (ly (M 1 1) rho) i j all (tka (ly (M 1 1) rho) i j))[a]).1 := by
            unfold lfE
            rw [if_neg (by omega), eF]
          rw [eF, eR, eE]
          exact ⟨c3, c4, c5, c6, c7, lc.2.1⟩
        · obtain ⟨d1, d2, d3, d4, d5, d6⟩ := hnew c cc0 (by omega)
          refine ⟨?_, ?_, ?_, ?_, ?_, d6⟩
          · rw [c1 1 1 _ (by omega)]; exact d1
          · rw [c1 1 1 _ (by omega)]; exact d2
          · rw [c1 1 1 _ (by omega)]; exact d3
          · rw [c1 1 1 _ (by omega)]; exact d4
          · rw [c1 1 1 _ (by omega)]; exact d5
  -- what is always set
  have must : ∀ (n : Nat) (x : Int) (N : sl_M), x + n = 4 → 0 ≤ x → (∀ o q b, ¬ (o = 1 ∧ q = 1 ∧ 777 + 4 * M 1 1 761 ≤ b ∧ b < 777 + 4 * M 1 1 761 + 4) → N o q b = M25 o q b) → (∀ y, 0 ≤ y → y < x → N 1 1 (777 + 4 * M 1 1 761 + y) = N2 1 39 y) → sl_At l mX10_lifts 183 [(0, vR 1 0), (1, vI i), (2, vI j), (3, vI all), (4, vI (M 1 1 761)), (5, vI x)] [] N Q := by
    intro n
    induction n with
    | zero =>
      intro x N hx x0 hF hy
      have n761 : N 1 1 761 = M 1 1 761 := by rw [hF 1 1 761 (by omega), f25 1 1 761 (by omega), er9]
      refine vX10_lifts_183 fun _ _ _ _ _ _ => ⟨fun _ => ?_, fun z => by omega⟩
      rw [n761]
      refine ⟨by omega, fun M3 e3 => ?_⟩
      have f3 : ∀ o q b, ¬ (o = 1 ∧ q = 1 ∧ b = 761) → M3 o q b = N o q b := fun o q b zz => by rw [e3]; simp only [sl_wr]; rw [if_neg (by omega)]
      have t21 : ∀ k, 0 ≤ k → k < ly (M 1 1) rho 0 0 → M3 1 21 k = tk (M 1 1) k := fun k k0 k1' => by
        rw [f3 1 21 k (by omega), hF 1 21 k (by omega), f25 1 21 k (by omega)]
        have := (la9.2.1 k k0 k1').1; rw [Int.zero_add] at this; exact this
      have t771 : M3 1 1 (771 + M 1 1 761) = lpk (od (sI (ly (M 1 1) rho) i j) [] (ocf (ly (M 1 1) rho) i j)) := by rw [f3 1 1 _ (by omega), hF 1 1 _ (by omega)]; exact w771
      have t774 : M3 1 1 (774 + M 1 1 761) = lpk (od (sO (ly (M 1 1) rho) i j) [] (ocf (ly (M 1 1) rho) i j)) := by rw [f3 1 1 _ (by omega), hF 1 1 _ (by omega)]; exact w774
      have t789 : M3 1 1 789 = M 1 1 789 := by rw [f3 1 1 789 (by omega), hF 1 1 789 (by omega), f25 1 1 789 (by omega), er9]
      show (0 ≤ i ∧ i < 82) ∧ (0 ≤ j ∧ j < 82) ∧ (0 ≤ 771 + M 1 1 761 ∧ 771 + M 1 1 761 < 990) ∧ (0 ≤ 774 + M 1 1 761 ∧ 774 + M 1 1 761 < 990) ∧ sl_RV l mX10_calls [vR 1 0, vI (M3 1 21 i), vI (M3 1 21 j), vI (M 1 1 761), vI (M3 1 1 (771 + M 1 1 761)), vI (M3 1 1 (774 + M 1 1 761))] M3 _
      rw [t21 i s1 (by omega), t21 j (by omega) s3, t771, t774]
      refine ⟨by omega, by omega, by omega, by omega, kX10_calls (by omega) (fun N' c1 c2 c3 c4 c5 c6 c7 => ⟨rfl, ?_⟩)⟩
      rw [t789] at c1 c2 c3 c4 c5 c6 c7
      refine alk _ 0 N' (Nat.zero_add _) (fun o q b zz => by rw [c1 o q b (by omega), f3 o q b (by omega), hF o q b (by omega)]) (by rw [c1 1 1 761 (by omega), e3, sl_wr_s]) (fun m mm0 mm1 mm2 x x0 x1 => by rw [c1 1 1 _ (by omega), f3 1 1 _ (by omega), hF 1 1 _ (by omega), f25 1 1 _ (by omega), er9]) (fun e he => ?_) (by rw [c2]; omega) (fun c cc0 cc1 cc2 => ?_) (fun c cc0 cc1 => ?_)
      · have sb := sp_bd (e := e)
        rw [c1 1 1 _ (by omega), f3 1 1 _ (by omega), hy _ sb.1 (by omega)]
        exact (sp.2.2.2.2.2.2 e he).2
      · rw [c1 1 1 (790 + c) (by omega), c1 1 1 (830 + c) (by omega), c1 1 1 (870 + c) (by omega), c1 1 1 (910 + c) (by omega), c1 1 1 (950 + c) (by omega), f3 1 1 _ (by omega), f3 1 1 _ (by omega), f3 1 1 _ (by omega), f3 1 1 _ (by omega), f3 1 1 _ (by omega), hF 1 1 _ (by omega), hF 1 1 _ (by omega), hF 1 1 _ (by omega), hF 1 1 _ (by omega), hF 1 1 _ (by omega), f25 1 1 _ (by omega), f25 1 1 _ (by omega), f25 1 1 _ (by omega), f25 1 1 _ (by omega), f25 1 1 _ (by omega), er9]
        exact ⟨rfl, rfl, rfl, rfl, rfl⟩
      · have ec : c = M 1 1 789 := by omega
        subst ec
        have eF : lfF (M 1 1 789) i (lfK (ly (M 1 1) rho) i j all (tka (ly (M 1 1) rho) i j)) (M 1 1 789) = i := by unfold lfF; rw [if_pos rfl]
        have eE : lfE (ly (M 1 1) rho) (M 1 1 789) i j (lfK (ly (M 1 1) rho) i j all (tka (ly (M 1 1) rho) i j)) (M 1 1 789) = j := by unfold lfE; rw [if_pos rfl]
        have eR : lfR rho (M 1 1 789) (lfK (ly (M 1 1) rho) i j all (tka (ly (M 1 1) rho) i j)) (M 1 1 789) = 16434824 := by unfold lfR; rw [if_neg (by omega), if_pos rfl]
        rw [eF, eE, eR]
        have idm : ∀ set, rnl 16434824 (od set [] (ocf (ly (M 1 1) rho) i j)) = od set [] (ocf (ly (M 1 1) rho) i j) := fun set => by
          have : (od set [] (ocf (ly (M 1 1) rho) i j)).map (rn 16434824) = (od set [] (ocf (ly (M 1 1) rho) i j)).map id := List.map_congr_left (fun v hv => rn_same (od_8 o8 v hv))
          show (od set [] (ocf (ly (M 1 1) rho) i j)).map (rn 16434824) = _
          rw [this, List.map_id]
        exact ⟨c3, c4, c5, by rw [idm]; exact c6, by rw [idm]; exact c7, NSp.self hG hs' hn zb⟩
    | succ n ih =>
      intro x N hx x0 hF hy
      have n39 : N 1 39 x = N2 1 39 x := by rw [hF 1 39 x (by omega), f25 1 39 x (by omega)]; exact kp 39 x (by omega)
      refine vX10_lifts_183 fun _ _ _ _ _ _ => ⟨fun z => by omega, fun _ => ⟨by omega, by omega, fun M11 e11 => ⟨by omega, ih (x + 1) M11 (by omega) (by omega) (fun o q b zz => by rw [e11]; simp only [sl_wr]; rw [if_neg (by omega)]; exact hF o q b zz) (fun y y0 y1 => ?_)⟩⟩⟩
      rw [n39] at e11
      by_cases ey : y = x
      · rw [ey, e11, sl_wr_s]
      · rw [e11]; simp only [sl_wr]; rw [if_neg (by omega)]; exact hy y y0 (by omega)
  exact must 4 0 M25 (by omega) (by omega) (fun _ _ _ _ => rfl) (fun y y0 y1 => by omega)
end K
