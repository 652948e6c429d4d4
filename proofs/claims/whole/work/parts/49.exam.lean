/-! Flow: study, examine -/
noncomputable def cif (p : Prop) (a b : Int) : Int := @ite Int p (Classical.propDecidable p) a b
theorem cif1 {p : Prop} {a b : Int} (h : p) : cif p a b = a := by unfold cif; rw [if_pos h]
theorem cif0 {p : Prop} {a b : Int} (h : ¬ p) : cif p a b = b := by unfold cif; rw [if_neg h]
abbrev e4 (e : Int) : Prop := e = 1 ∨ e = 2 ∨ e = 4 ∨ e = 8
/-- the region is left by exit e -/
def xE (P : Pg) (f t e : Int) : Prop := ∃ k S, f ≤ k ∧ k ≤ t ∧ Rw P f t wA k ∧ Ed P f t k (-e) S
/-- .. without v having been set -/
def mU (P : Pg) (f t e : Int) (v : Nat) : Prop := ∃ k S, f ≤ k ∧ k ≤ t ∧ Rw P f t (wV v) k ∧ Ed P f t k (-e) S ∧ bt S v = false
/-- v is live where exit e of a span that ends with j leads -/
def sL (P : Pg) (j e : Int) (v : Nat) : Prop := 0 ≤ tg P 0 (P 0 0 - 1) j e ∧ Lv P 0 (P 0 0 - 1) v (tg P 0 (P 0 0 - 1) j e)
noncomputable def sX (P : Pg) (f t : Int) : Int := bi (xE P f t 1) + 2 * bi (xE P f t 2) + 4 * bi (xE P f t 4) + 8 * bi (xE P f t 8)
noncomputable def sA (P : Pg) (f t e : Int) : Int := cif (xE P f t e) (msk fun v => ¬ mU P f t e v) (-1)
noncomputable def sLv (P : Pg) (f t j e : Int) : Int := cif (xE P f t e) (msk (sL P j e)) 0
noncomputable def sO (P : Pg) (i j : Int) : Int := msk fun v => (∃ k, i ≤ k ∧ k < P 3 j ∧ bt (P 22 k) v = true) ∧ ∃ e, e4 e ∧ xE P i (P 3 j - 1) e ∧ sL P j e v
noncomputable def sI (P : Pg) (i j : Int) : Int := msk fun v => Lv P i (P 3 j - 1) v i ∨ ∃ e, e4 e ∧ xE P i (P 3 j - 1) e ∧ bt (sO P i j) v = true ∧ sL P j e v ∧ mU P i (P 3 j - 1) e v
/-- v is not set on some path to k -/
def nS (P : Pg) (k : Int) (v : Nat) : Prop := bt 3 v = false ∧ Rw P 0 (P 0 0 - 1) (wV v) k
noncomputable def sB (P : Pg) (i j : Int) : Int := cif (∃ k, i ≤ k ∧ k < P 3 j ∧ P 1 k = 7) 1 (if 4 < pcn (sI P i j) ∨ 3 < pcn (sO P i j) then 2 else cif (∃ v, v < 8 ∧ bt (sI P i j) v = true ∧ nS P i v) 3 0)
theorem WF.rgA {P : Pg} (h : WF P) (hn : 0 < P 0 0) : Rg P 0 (P 0 0 - 1) := ⟨by omega, by omega, by omega, fun k k1 k2 => by have := h.af k1 (by omega); omega⟩
theorem WF.rgS {P : Pg} (h : WF P) {i j : Int} (hs : isp P i j) : Rg P i (P 3 j - 1) := by
  obtain ⟨h0, h1, h2, h3, h4⟩ := hs
  have a := h.af (k := j) (by omega) h2
  have b := h.pr (k := i) h0 (by omega)
  refine ⟨h0, by omega, by omega, fun k k1 k2 => ?_⟩
  by_cases c1 : k < j
  · have := h.bt (k := j) (j := k) (by omega) h2 (by omega) (by omega) c1; omega
  · by_cases c2 : k = j
    · rw [c2]; omega
    · have := h.ins (j := j) (k := k) (by omega) (by omega) (by omega) (by omega); omega
/-- the program's facts lie in the flow's rows -/
def Sd (M : sl_M) (s : Nat) (P : Pg) : Prop := M 6 0 0 = (s : Int) + 1 ∧ (0 < P 0 0 → LvS P 0 (P 0 0 - 1) (M 6 3) ∧ ∃ A, FS P 0 (P 0 0 - 1) 3 (M 6 4) A)
theorem bc_dec : ∀ n : Nat, n < 256 → sl_rg ((n : Int) - iand (iushr (n : Int) 1) 1431655765) ∧ sl_rg (iand ((n : Int) - iand (iushr (n : Int) 1) 1431655765) 858993459 + iand (iushr ((n : Int) - iand (iushr (n : Int) 1) 1431655765) 2) 858993459) := by decide +kernel
def bcA (n : Int) : Int := iand (n - iand (iushr n 1) 1431655765) 858993459 + iand (iushr (n - iand (iushr n 1) 1431655765) 2) 858993459
def bcB (n : Int) : Int := iand (bcA n + iushr (bcA n) 4) 252645135
def bcC (n : Int) : Int := bcB n + iushr (bcB n) 8
theorem bc_dec2 : ∀ n : Nat, n < 256 → sl_rg (bcC n) ∧ sl_rg (bcC n + iushr (bcC n) 16) ∧ iand (bcC n + iushr (bcC n) 16) 63 = pcn n := by decide +kernel
section K
variable {l : Launch} {M : sl_M} {Q : sl_R} {s : Nat} {P : Pg}
theorem kJ6_bitCount {m : Int} (hm : m8 m) (hQ : Q (some (vI (pcn m))) M) : sl_Runs l mJ6_bitCount_0f7a4 [vI m] M Q := by
  have e : ((m.toNat : Nat) : Int) = m := by unfold m8 at hm; omega
  have h1 := bc_dec m.toNat (by unfold m8 at hm; omega)
  have h2 := bc_dec2 m.toNat (by unfold m8 at hm; omega)
  rw [e] at h1 h2
  refine eJ6_bitCount_0f7a4 (vJ6_bitCount_0f7a4_0 fun _ _ => ⟨h1.1, ?_⟩)
  rintro _ rfl
  refine ⟨h1.2, ?_⟩
  rintro _ rfl _ rfl
  refine ⟨h2.1, ?_⟩
  rintro _ rfl
  refine ⟨h2.2.1, ?_⟩
  rintro _ rfl
  have := h2.2.2
  unfold bcC bcB bcA at this
  rw [this]
  exact hQ
theorem kX1_study (hw : WF P) (hF : StF M s P) (hk : M 6 0 1 = 0 ∨ Sd M s P) (hQ : ∀ N, N 6 0 1 ≠ 0 → Sd N s P → (∀ o i j, o ≠ 6 → N o i j = M o i j) → Q none N) : sl_Runs l mX1_study [vR 6 0, vR s 0] M Q := by
  have hn := hw.n0
  have hs7 := sl_cls7 s (sl_cls_lt (by have := hF.1; omega)) hF.1
  refine eX1_study (vX1_study_0 hF.1 fun _ => ⟨fun q M2 e2 => ⟨by omega, fun M4 e4 => ⟨s, ⟨?_, hF.1⟩, ?_⟩⟩, fun q => hQ M q (hk.resolve_left q) (fun _ _ _ _ => rfl)⟩)
  · rw [e4]; exact sl_wr_s
  · have hout : ∀ o i j, o ≠ 6 → M4 o i j = M o i j := fun o i j ho => by
      rw [e4, sl_wr_o o i j (fun z => ho (by cases z; rfl)), e2, sl_wr_o o i j (fun z => ho (by cases z; rfl))]
    have hF4 : StF M4 s P := hF.frame hw (fun o i j ho => hout o i j (by have := StO_ne hF.1 ho; omega))
    have h60 : M4 6 0 0 = (s : Int) + 1 := by rw [e4]; exact sl_wr_s
    have h61 : M4 6 0 1 = 1 := by
      rw [e4]
      unfold sl_wr
      rw [if_neg (by omega), e2]
      exact sl_wr_s
    have hcn := hF4.2.1.1
    refine ⟨by omega, fun y ey => ⟨fun q => ?_, fun q => ?_⟩⟩
    · exact hQ M4 (by omega) ⟨h60, fun z => by omega⟩ hout
    · have hy : y = P 0 0 - 1 := by omega
      subst hy
      have hr := hw.rgA (by omega)
      refine kX1_findLive hw hF4 h60 rfl hr (fun N1 hL hfa => ⟨rfl, ?_⟩)
      refine kX1_findSet hw (hfa.fo.st hw hF4) (by rw [hfa 6 0 0 (by omega)]; exact h60) rfl hr (by exact ⟨by decide, by decide⟩) (fun N2 hS hfo => ⟨rfl, ?_⟩)
      refine hQ N2 ?_ ⟨?_, fun _ => ⟨?_, _, hS⟩⟩ (fun o i j ho => ?_)
      · rw [hfo 6 0 1 (by omega), hfa 6 0 1 (by omega)]; omega
      · rw [hfo 6 0 0 (by omega), hfa 6 0 0 (by omega)]; exact h60
      · have : N2 6 3 = N1 6 3 := by funext j; exact hfo 6 3 j (by omega)
        rw [this]; exact hL
      · rw [hfo o i j (fun z => ho z.1), hfa o i j (fun z => ho z.1)]; exact hout o i j ho
theorem FS.row {f t : Int} {B A : Int → Int} (h : FS P f t 0 B A) {e : Int} (he : e4 e) : A e = sA P f t e ∧ (A e = -1 ↔ ¬ xE P f t e) := by
  rcases h.2 e he with ⟨a, b⟩ | ⟨a, b, c⟩
  · have nb : ¬ xE P f t e := b
    exact ⟨by rw [a]; unfold sA; rw [cif0 nb], fun _ => nb, fun _ => a⟩
  · have ya : xE P f t e := a
    refine ⟨?_, fun z => absurd z (m8_ne b), fun z => absurd ya z⟩
    unfold sA
    rw [cif1 ya]
    refine msk_eq b (fun v hv => ?_)
    have := c v hv
    rw [bt_0] at this
    constructor
    · intro q z
      rw [this.mpr ⟨rfl, z⟩] at q; cases q
    · intro q
      cases e1 : bt (A e) v
      · exact absurd (this.mp e1).2 q
      · rfl
def pX (b1 b2 b4 b8 e : Int) : Int := (if 1 < e then b1 else 0) + (if 2 < e then 2 * b2 else 0) + (if 4 < e then 4 * b4 else 0) + (if 8 < e then 8 * b8 else 0)
theorem ior_pw : ∀ a : Nat, a < 8 → (a < 1 → ior (a : Int) 1 = a + 1) ∧ (a < 2 → ior (a : Int) 2 = a + 2) ∧ (a < 4 → ior (a : Int) 4 = a + 4) ∧ ior (a : Int) 8 = a + 8 := by decide +kernel
theorem ior_pw' {a e : Int} (he : e4 e) (h0 : 0 ≤ a) (h1 : a < e) : ior a e = a + e := by
  have h8 : a < 8 := by rcases he with rfl | rfl | rfl | rfl <;> omega
  have := ior_pw a.toNat (by omega)
  rw [show ((a.toNat : Nat) : Int) = a by omega] at this
  rcases he with rfl | rfl | rfl | rfl
  · exact this.1 (by omega)
  · exact this.2.1 (by omega)
  · exact this.2.2.1 (by omega)
  · exact this.2.2.2
/-- what a span's cells hold -/
def SpM (N : sl_M) (o : Nat) (P : Pg) (i j : Int) : Prop := N o 0 0 = i ∧ N o 0 1 = j ∧ N o 0 2 = P 3 j - 1 ∧ N o 0 3 = sX P i (P 3 j - 1) ∧ N o 0 4 = sI P i j ∧ N o 0 5 = sO P i j ∧ N o 0 6 = sB P i j ∧ ∀ e, e4 e → N o 8 e = sLv P i (P 3 j - 1) j e ∧ N o 9 e = sA P i (P 3 j - 1) e
theorem kX1_reason (hw : WF P) (hF : StF M s P) (hd : Sd M s P) {o : Nat} (ho : sl_cls o = 6) {i j : Int} (hs : isp P i j) (h0 : M o 0 0 = i) (h2 : M o 0 2 = P 3 j - 1) (h4 : M o 0 4 = sI P i j) (h5 : M o 0 5 = sO P i j) (hQ : Q (some (vI (sB P i j))) M) : sl_Runs l mX1_reason [vR 6 0, vR o 0] M Q := by
  have hn := hw.n0
  obtain ⟨s0, s1, s2, s3, s4⟩ := hs
  have aj := hw.af (k := j) (by omega) s2
  have loop : ∀ (n : Nat) (k : Int), (P 3 j - k).toNat ≤ n → i ≤ k → k ≤ P 3 j → (∀ z, i ≤ z → z < k → P 1 z ≠ 7) → sl_At l mX1_reason 5 [(0, vR 6 0), (1, vR o 0), (2, vI k)] [] M Q := by
    intro n
    have fin : ∀ k, i ≤ k → ¬ k < P 3 j → (∀ z, i ≤ z → z < k → P 1 z ≠ 7) → sl_RI l mJ6_bitCount_0f7a4 [vI (M o 0 4)] M (fun y3 M2 => ((4 < y3) → Q (some (vI 2)) M2) ∧ ((¬ (4 < y3)) → sl_RI l mJ6_bitCount_0f7a4 [vI (M2 o 0 5)] M2 (fun y6 M5 => ((y6 ≤ 3) → (0 ≤ M5 o 0 0 ∧ M5 o 0 0 < 40) ∧ Q (some (vI (if iand (M5 o 0 4) (ixor (M5 6 4 (M5 o 0 0)) (-1)) = 0 then 0 else 3))) M5) ∧ ((¬ (y6 ≤ 3)) → Q (some (vI 2)) M5)))) := by
      intro k k1 k2 k3
      have nc : ¬ ∃ k, i ≤ k ∧ k < P 3 j ∧ P 1 k = 7 := by
        rintro ⟨z, z1, z2, z3⟩
        exact k3 z z1 (by omega) z3
      unfold sB at hQ
      rw [cif0 nc] at hQ
      rw [h4]
      refine kJ6_bitCount (m8_msk _) ⟨_, rfl, fun q => ?_, fun q => ?_⟩
      · rw [if_pos (by omega)] at hQ; exact hQ
      · rw [h5]
        refine kJ6_bitCount (m8_msk _) ⟨_, rfl, fun q2 => ⟨by omega, ?_⟩, fun q2 => ?_⟩
        · rw [if_neg (by omega)] at hQ
          rw [h0, h4]
          obtain ⟨-, A, hS⟩ := hd.2 (by omega)
          have iff : iand (sI P i j) (ixor (M 6 4 i) (-1)) = 0 ↔ ¬ ∃ v, v < 8 ∧ bt (sI P i j) v = true ∧ nS P i v := by
            have mi : m8 (sI P i j) := m8_msk _
            have bits : ∀ v, v < 8 → (bt (M 6 4 i) v = false ↔ nS P i v) := by
              intro v hv
              rcases hS.1 i (by omega) (by omega) with ⟨a, b⟩ | ⟨a, b, c⟩
              · constructor
                · intro z; rw [bt_m1' a hv] at z; cases z
                · rintro ⟨-, z⟩
                  exact absurd (fun T hb hst => z T hb (fun a x S a1 a2 a3 a4 a5 _ => hst a x S a1 a2 a3 a4 a5 trivial)) b
              · exact c v hv
            constructor
            · rintro z ⟨v, hv, v1, v2⟩
              have : bt (iand (sI P i j) (ixor (M 6 4 i) (-1))) v = true := by
                rw [bt_iand, v1, bt_not _ (by omega), (bits v hv).mpr v2]; rfl
              rw [z, bt_0] at this; cases this
            · intro z
              refine m8_ext (m8_and mi) m8_0 (fun v hv => ?_)
              rw [bt_0, bt_iand, bt_not _ (by omega)]
              cases e1 : bt (sI P i j) v
              · rfl
              · cases e2 : bt (M 6 4 i) v
                · exact absurd ⟨v, hv, e1, (bits v hv).mp e2⟩ z
                · rfl
          by_cases c : iand (sI P i j) (ixor (M 6 4 i) (-1)) = 0
          · rw [if_pos c]; rw [cif0 (iff.mp c)] at hQ; exact hQ
          · rw [if_neg c]
            have : ∃ v, v < 8 ∧ bt (sI P i j) v = true ∧ nS P i v := Classical.byContradiction fun z => c (iff.mpr z)
            rw [cif1 this] at hQ; exact hQ
        · rw [if_pos (by omega)] at hQ; exact hQ
    induction n with
    | zero =>
      intro k h1 h2' h3 h7
      refine vX1_reason_5 ho fun _ _ => ⟨fun _ => fin k h2' (by omega) h7, fun q => by omega⟩
    | succ n ih =>
      intro k h1 h2' h3 h7
      refine vX1_reason_5 ho fun _ _ => ⟨fun q => fin k h2' (by omega) h7, fun q => ⟨s, ⟨hd.1, hF.1⟩, by omega, ?_⟩⟩
      rw [(hF.2.1.2 k (by omega) (by omega)).1]
      refine ⟨fun q2 => ⟨by omega, ih (k + 1) (by omega) (by omega) (by omega) (fun z z1 z2 => ?_)⟩, fun q2 => ?_⟩
      · by_cases c : z = k
        · rw [c]; exact q2
        · exact h7 z z1 (by omega)
      · unfold sB at hQ
        rw [cif1 ⟨k, h2', by omega, by omega⟩] at hQ
        exact hQ
  refine eX1_reason (vX1_reason_0 ho fun _ => ?_)
  rw [h0]
  exact loop (P 3 j - i).toNat i (Nat.le_refl _) (Int.le_refl _) (by omega) (fun z z1 z2 => by omega)
end K
