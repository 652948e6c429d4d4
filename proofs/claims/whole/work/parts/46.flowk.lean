/-! Flow: what each path sets -/
/-- nothing but rows a and 6 of the flow has changed -/
def Fo (M N : sl_M) (a : Nat) : Prop := ∀ o i j, ¬ (o = 6 ∧ (i = a ∨ i = 6)) → N o i j = M o i j
theorem Fo.rf {M : sl_M} {a : Nat} : Fo M M a := fun _ _ _ _ => rfl
theorem Fo.tr {M N O : sl_M} {a : Nat} (h1 : Fo M N a) (h2 : Fo N O a) : Fo M O a := fun o i j q => (h2 o i j q).trans (h1 o i j q)
theorem StO_ne {s o : Nat} (hs : sl_cls s = 7) (h : StO s o) : 10 ≤ o := by
  have := sl_cls7 s (sl_cls_lt (by omega)) hs
  unfold StO at h
  omega
theorem Fo.st {M N : sl_M} {a s : Nat} {P : Pg} (hw : WF P) (h : Fo M N a) (hS : StF M s P) : StF N s P := hS.frame hw (fun o i j ho => h o i j (by have := StO_ne hS.1 ho; omega))
def rch (M : sl_M) (a : Nat) (x m : Int) : sl_M := if 0 ≤ x then sl_wr M 6 a x (iand (M 6 a x) m) else sl_wr M 6 6 (-x) (iand (M 6 6 (-x)) m)
theorem rch_fo {M : sl_M} {a : Nat} {x m : Int} : Fo M (rch M a x m) a := by
  intro o i j q
  unfold rch
  split
  · exact sl_wr_o o i j (fun z => q (by cases z; exact ⟨rfl, Or.inl rfl⟩))
  · exact sl_wr_o o i j (fun z => q (by cases z; exact ⟨rfl, Or.inr rfl⟩))
theorem rch_B {M : sl_M} {a : Nat} (ha : a ≠ 6) {x m : Int} : (rch M a x m) 6 a = rB (M 6 a) x m := by
  funext j
  unfold rch rB
  by_cases hx : 0 ≤ x
  · rw [if_pos hx, if_pos hx]
    unfold sl_wr up
    by_cases c : j = x
    · rw [if_pos ⟨rfl, rfl, c⟩, if_pos c]
    · rw [if_neg (fun z => c z.2.2), if_neg c]
  · rw [if_neg hx, if_neg hx]
    exact sl_wr_o 6 a j (fun z => ha (by cases z; rfl))
theorem rch_A {M : sl_M} {a : Nat} (ha : a ≠ 6) {x m : Int} : (rch M a x m) 6 6 = rA (M 6 6) x m := by
  funext j
  unfold rch rA
  by_cases hx : 0 ≤ x
  · rw [if_pos hx, if_pos hx]
    exact sl_wr_o 6 6 j (fun z => ha (by cases z; rfl))
  · rw [if_neg hx, if_neg hx]
    unfold sl_wr up
    by_cases c : j = -x
    · rw [if_pos ⟨rfl, rfl, c⟩, if_pos c]
    · rw [if_neg (fun z => c z.2.2), if_neg c]
section K
variable {l : Launch} {M : sl_M} {Q : sl_R} {s : Nat} {P : Pg} {a : Nat}
theorem ar1_ne (ha : sl_ar 1 a = some (0, 40)) : a ≠ 6 := by rintro rfl; cases ha
theorem kX1_reach (ha : sl_ar 1 a = some (0, 40)) {x m : Int} (hx : x < 40 ∧ -9 < x) (hQ : Q none (rch M a x m)) : sl_Runs l mX1_reach [vR 6 0, vI x, vI m, vR 6 a] M Q := by
  unfold rch at hQ
  refine eX1_reach (vX1_reach_0 ha fun _ _ _ => ⟨fun q => ⟨by omega, fun q2 => by omega, fun q2 => ⟨by omega, fun N eN => ?_⟩⟩, fun q => ⟨by omega, fun N eN => ?_⟩⟩)
  · rw [if_neg (by omega)] at hQ; rw [eN]; exact hQ
  · rw [if_pos (by omega)] at hQ; rw [eN]; exact hQ
theorem FI.weak {f t st : Int} {B A : Int → Int} {k : Int} {E E' : Int → Int → Prop} (h : FI P f t st B A k E) (hE : ∀ x S, E' x S → E x S) : FI P f t st B A k E' := ⟨h.1, h.2.1, fun a x S a1 a2 a3 a4 a5 => h.2.2.1 a x S a1 a2 (a3.imp id (fun q => ⟨q.1, hE x S q.2⟩)) a4 a5, h.2.2.2⟩
theorem ior_0 {m : Int} (h : m8 m) : ior m 0 = m := m8_ext (m8_or h m8_0) h (fun v _ => by rw [bt_ior, bt_0, Bool.or_false])
theorem en_rng (hw : WF P) {f t : Int} (hr : Rg P f t) {k e : Int} (hk : f ≤ k ∧ k ≤ t) (hkd : P 1 k = 5 ∨ P 1 k = 6) (he : e = 0 ∨ e = 1) : en P f t k e < 40 ∧ -9 < en P f t k e := by
  have hE : Ed P f t k (en P f t k e) 0 := Or.inl ⟨hkd, rfl, by rcases he with rfl | rfl; exact Or.inl rfl; exact Or.inr rfl⟩
  have hn := hw.n0
  obtain ⟨r1, r2, r3, r4⟩ := hr
  by_cases c : 0 ≤ en P f t k e
  · have := (fw_ed hw ⟨r1, r2, r3, r4⟩ hk hE c).1; omega
  · have := ed_out hw ⟨r1, r2, r3, r4⟩ hk hE (by omega); omega
/-- all edges of k are followed -/
theorem kX1_passOn (hw : WF P) (hF : StF M s P) (hs : M 6 0 0 = (s : Int) + 1) (ha : sl_ar 1 a = some (0, 40)) {f t st k : Int} (hr : Rg P f t) (hk : f ≤ k ∧ k ≤ t) (hB : M 6 a k ≠ -1) (hI : FI P f t st (M 6 a) (M 6 6) k (fun _ _ => False)) (hQ : ∀ N, FI P f t st (N 6 a) (N 6 6) (k + 1) (fun _ _ => False) → Fo M N a → Q none N) : sl_Runs l mX1_passOn [vR 6 0, vI k, vI f, vI t, vR 6 a] M Q := by
  have hn := hw.n0
  have hr' := hr
  obtain ⟨r1, r2, r3, r4⟩ := hr
  have na := ar1_ne ha
  have na0 : a ≠ 0 := by rintro rfl; cases ha
  have e1 := (hF.2.1.2 k (by omega) (by omega)).1
  have hp := cl_prog hF.1
  have J : P 1 k = 5 ∨ P 1 k = 6 → sl_At l mX1_passOn 32 [(0, vR 6 0), (1, vI k), (2, vI f), (3, vI t), (4, vR 6 a), (5, vR (s + 10) 0)] [] M Q := by
    intro hkd
    have E0 : Ed P f t k (en P f t k 0) 0 := Or.inl ⟨hkd, rfl, Or.inl rfl⟩
    have E1 : Ed P f t k (en P f t k 1) 0 := Or.inl ⟨hkd, rfl, Or.inr rfl⟩
    have m0 := (hI.1 k hk.1 hk.2 hB).2.1
    obtain ⟨i1, i2⟩ := hI.reach hw hr' (hF.mS hw hr') hk hB E0
    rw [ior_0 m0, ← rch_B na] at i2
    rw [ior_0 m0, ← rch_B na, ← rch_A na] at i1
    refine vX1_passOn_32 ha hp fun _ _ _ _ => kX0_enter hp hw hF.2.1 (by omega) r1 r3 ⟨_, rfl, by omega, kX1_reach ha (en_rng hw hr' hk hkd (Or.inl rfl)) ⟨rfl, ?_⟩⟩
    have hF1 : StF (rch M a (en P f t k 0) (M 6 a k)) s P := rch_fo.st hw hF
    generalize eN : rch M a (en P f t k 0) (M 6 a k) = N at *
    have hB1 : N 6 a k ≠ -1 := by rw [i2]; exact hB
    have m1 := (i1.1 k hk.1 hk.2 hB1).2.1
    obtain ⟨j1, j2⟩ := i1.reach hw hr' (hF1.mS hw hr') hk hB1 E1
    rw [ior_0 m1, ← rch_B na] at j2
    rw [ior_0 m1, ← rch_B na, ← rch_A na] at j1
    refine kX0_enter hp hw hF1.2.1 (by omega) r1 r3 ⟨_, rfl, kX1_reach ha (en_rng hw hr' hk hkd (Or.inr rfl)) ⟨rfl, ?_⟩⟩
    refine hQ _ (j1.next (Or.inr fun x S he => ?_)) (Fo.tr (by rw [← eN]; exact rch_fo) rch_fo)
    rcases he with ⟨-, z, z2 | z2⟩ | ⟨z1, z2, -⟩
    · exact Or.inl (Or.inr ⟨z2, z⟩)
    · exact Or.inr ⟨z2, z⟩
    · rcases hkd with q | q
      · exact absurd q z1
      · exact absurd q z2
  have loop : P 1 k ≠ 5 → P 1 k ≠ 6 → ∀ (n : Nat) (e : Int) (N : sl_M), (e = 1 ∧ n = 4 ∨ e = 2 ∧ n = 3 ∨ e = 4 ∧ n = 2 ∨ e = 8 ∧ n = 1 ∨ e = 16 ∧ n = 0) → Fo M N a → N 6 a k ≠ -1 → FI P f t st (N 6 a) (N 6 6) k (fun x S => ∃ q, q < e ∧ (q = 1 ∨ q = 2 ∨ q = 4 ∨ q = 8) ∧ iand (P 20 k) q ≠ 0 ∧ x = tg P f t k q ∧ S = P 21 (16 * k + q)) → sl_At l mX1_passOn 84 [(0, vR 6 0), (1, vI k), (2, vI f), (3, vI t), (4, vR 6 a), (5, vR (s + 10) 0), (6, vI (P 20 k)), (7, vI e)] [] N Q := by
    intro n5 n6 n
    induction n with
    | zero =>
      intro e N he hfo hB hI
      refine vX1_passOn_84 ha hp fun _ _ _ _ _ _ => ⟨fun _ => hQ N (hI.next (Or.inr fun x S hed => ?_)) hfo, fun q => by omega⟩
      rcases hed with ⟨z, -⟩ | ⟨-, -, q, z⟩
      · rcases z with z | z
        · exact absurd z n5
        · exact absurd z n6
      · exact ⟨q, by omega, z⟩
    | succ n ih =>
      intro e N he hfo hB hI
      have he' : e = 1 ∨ e = 2 ∨ e = 4 ∨ e = 8 := by omega
      have hF1 := hfo.st hw hF
      refine vX1_passOn_84 ha hp fun _ _ _ _ _ _ => ⟨fun q => by omega, fun _ => ⟨fun q => ⟨by omega, fun y ey => ?_⟩, fun q => ?_⟩⟩
      · refine ih y N (by omega) hfo hB (hI.weak ?_)
        rintro x S ⟨w, w1, w2, w3, w4⟩
        refine ⟨w, ?_, w2, w3, w4⟩
        by_cases c : w = e
        · subst c; exact absurd q w3
        · omega
      · have E0 : Ed P f t k (tg P f t k e) (P 21 (16 * k + e)) := Or.inr ⟨n5, n6, e, he', q, rfl, rfl⟩
        have hx : tg P f t k e < 40 ∧ -9 < tg P f t k e := by
          by_cases c : 0 ≤ tg P f t k e
          · have := (fw_ed hw hr' hk E0 c).1; omega
          · have := ed_out hw hr' hk E0 (by omega); omega
        refine kX0_target hp hw hF1.2.1 (by omega) he' r1 r3 ⟨_, rfl, by omega, s, ⟨by rw [hfo 6 0 0 (fun z => by omega)]; exact hs, hF.1⟩, kX7_setBy hw hF1 (by omega) he' ⟨_, rfl, kX1_reach ha hx ⟨rfl, by omega, fun y ey => ?_⟩⟩⟩
        obtain ⟨i1, i2⟩ := hI.reach hw hr' (hF1.mS hw hr') hk hB E0
        rw [← rch_B na] at i2
        rw [← rch_B na, ← rch_A na] at i1
        refine ih y _ (by omega) (hfo.tr rch_fo) (by rw [i2]; exact hB) (i1.weak ?_)
        rintro x S ⟨w, w1, w2, w3, w4, w5⟩
        by_cases c : w = e
        · subst c; exact Or.inr ⟨w4, w5⟩
        · exact Or.inl ⟨w, by omega, w2, w3, w4, w5⟩
  refine eX1_passOn (vX1_passOn_0 ha fun _ _ _ _ => ⟨s, ⟨hs, hF.1⟩, by omega, ?_⟩)
  rw [e1]
  refine ⟨fun q => J (Or.inl q), fun q => ⟨fun q2 => kX7_exitsOf hw hF (by omega) ⟨_, rfl, loop q q2 4 1 M (by omega) Fo.rf hB (hI.weak ?_)⟩, fun q2 => J (Or.inr (by omega))⟩⟩
  rintro x S ⟨w, w1, w2, -⟩
  omega
theorem kX1_findSet (hw : WF P) (hF : StF M s P) (hs : M 6 0 0 = (s : Int) + 1) (ha : sl_ar 1 a = some (0, 40)) {f t st : Int} (hr : Rg P f t) (hst : m8 st) (hQ : ∀ N, FS P f t st (N 6 a) (N 6 6) → Fo M N a → Q none N) : sl_Runs l mX1_findSet [vR 6 0, vI f, vI t, vI st, vR 6 a] M Q := by
  have hn := hw.n0
  have hr' := hr
  obtain ⟨r1, r2, r3, r4⟩ := hr
  have na := ar1_ne ha
  have na0 : a ≠ 0 := by rintro rfl; cases ha
  have main : ∀ (n : Nat) (k : Int) (N : sl_M), (t + 1 - k).toNat ≤ n → f ≤ k → k ≤ t + 1 → Fo M N a → FI P f t st (N 6 a) (N 6 6) k (fun _ _ => False) → sl_At l mX1_findSet 56 [(0, vR 6 0), (1, vI f), (2, vI t), (4, vR 6 a), (5, vI k)] [] N Q := by
    intro n
    induction n with
    | zero =>
      intro k N h1 h2 h3 hfo hI
      refine vX1_findSet_56 ha fun _ _ _ _ => ⟨fun _ => hQ N (FI.last hw hr' (by rw [show t + 1 = k by omega]; exact hI)) hfo, fun q => by omega⟩
    | succ n ih =>
      intro k N h1 h2 h3 hfo hI
      refine vX1_findSet_56 ha fun _ _ _ _ => ⟨fun q => hQ N (FI.last hw hr' (by rw [show t + 1 = k by omega]; exact hI)) hfo, fun q => ⟨by omega, fun q2 => ⟨by omega, ?_⟩, fun q2 => ?_⟩⟩
      · exact ih (k + 1) N (by omega) (by omega) (by omega) hfo (hI.next (Or.inl q2))
      · refine kX1_passOn hw (hfo.st hw hF) (by rw [hfo 6 0 0 (fun z => by omega)]; exact hs) ha hr' (by omega) q2 hI (fun N' hI' hfo' => ⟨rfl, by omega, ?_⟩)
        exact ih (k + 1) N' (by omega) (by omega) (by omega) (hfo.tr hfo') hI'
  have mid : ∀ (n : Nat) (e : Int) (N : sl_M), (e = 1 ∧ n = 4 ∨ e = 2 ∧ n = 3 ∨ e = 4 ∧ n = 2 ∨ e = 8 ∧ n = 1 ∨ e = 16 ∧ n = 0) → Fo M N a → (∀ k, f ≤ k → k ≤ t → N 6 a k = -1) → (∀ q, (q = 1 ∨ q = 2 ∨ q = 4 ∨ q = 8) → q < e → N 6 6 q = -1) → sl_At l mX1_findSet 24 [(0, vR 6 0), (1, vI f), (2, vI t), (3, vI st), (4, vR 6 a), (5, vI e)] [] N Q := by
    intro n
    induction n with
    | zero =>
      intro e N he hfo hB hA
      refine vX1_findSet_24 ha fun _ _ _ _ _ => ⟨fun _ => ⟨by omega, fun N' eN => ?_⟩, fun q => by omega⟩
      have eB : N' 6 a = up (N 6 a) f st := by
        rw [eN]
        funext j
        unfold sl_wr up
        by_cases c : j = f
        · rw [if_pos ⟨rfl, rfl, c⟩, if_pos c]
        · rw [if_neg (fun z => c z.2.2), if_neg c]
      have eA : N' 6 6 = N 6 6 := by
        rw [eN]
        funext j
        exact sl_wr_o 6 6 j (fun z => na (by cases z; rfl))
      refine main (t + 1 - f).toNat f N' (Nat.le_refl _) (Int.le_refl _) (by omega) (hfo.tr (fun o i j q => by rw [eN]; exact sl_wr_o o i j (fun z => q (by cases z; exact ⟨rfl, Or.inl rfl⟩)))) ?_
      rw [eB, eA]
      exact FI.first hr' hst up_s (fun k k1 k2 => by rw [up_o (by omega)]; exact hB k (by omega) k2) (fun q hq => hA q hq (by omega))
    | succ n ih =>
      intro e N he hfo hB hA
      refine vX1_findSet_24 ha fun _ _ _ _ _ => ⟨fun q => by omega, fun _ => ⟨by omega, fun N' eN => ⟨by omega, fun y ey => ?_⟩⟩⟩
      refine ih y N' (by omega) (hfo.tr (fun o i j q => by rw [eN]; exact sl_wr_o o i j (fun z => q (by cases z; exact ⟨rfl, Or.inr rfl⟩)))) (fun k k1 k2 => ?_) (fun q q1 q2 => ?_)
      · rw [eN, sl_wr_o 6 a k (fun z => na (by cases z; rfl))]; exact hB k k1 k2
      · rw [eN]
        unfold sl_wr
        by_cases c : q = e
        · rw [if_pos ⟨rfl, rfl, c⟩]
        · rw [if_neg (fun z => c z.2.2)]
          exact hA q q1 (by omega)
  have pre : ∀ (n : Nat) (k : Int) (N : sl_M), (t + 1 - k).toNat ≤ n → f ≤ k → k ≤ t + 1 → Fo M N a → (∀ j, f ≤ j → j < k → N 6 a j = -1) → sl_At l mX1_findSet 3 [(0, vR 6 0), (1, vI f), (2, vI t), (3, vI st), (4, vR 6 a), (5, vI k)] [] N Q := by
    intro n
    induction n with
    | zero =>
      intro k N h1 h2 h3 hfo hB
      refine vX1_findSet_3 ha fun _ _ _ _ _ => ⟨fun _ => mid 4 1 N (by omega) hfo (fun j j1 j2 => hB j j1 (by omega)) (fun q q1 q2 => by omega), fun q => by omega⟩
    | succ n ih =>
      intro k N h1 h2 h3 hfo hB
      refine vX1_findSet_3 ha fun _ _ _ _ _ => ⟨fun q => mid 4 1 N (by omega) hfo (fun j j1 j2 => hB j j1 (by omega)) (fun q q1 q2 => by omega), fun q => ⟨by omega, fun N' eN => ⟨by omega, ?_⟩⟩⟩
      refine ih (k + 1) N' (by omega) (by omega) (by omega) (hfo.tr (fun o i j q => by rw [eN]; exact sl_wr_o o i j (fun z => q (by cases z; exact ⟨rfl, Or.inl rfl⟩)))) (fun j j1 j2 => ?_)
      rw [eN]
      unfold sl_wr
      by_cases c : j = k
      · rw [if_pos ⟨rfl, rfl, c⟩]
      · rw [if_neg (fun z => c z.2.2)]
        exact hB j j1 (by omega)
  exact eX1_findSet (vX1_findSet_0 ha fun _ _ _ _ => pre (t + 1 - f).toNat f M (Nat.le_refl _) (Int.le_refl _) (by omega) Fo.rf (fun j j1 j2 => by omega))
end K
