/-! The order of first occurrences -/
def stp (set : Int) (acc : List Int) (v : Int) : List Int := if bt set v.toNat = true ∧ v ∉ acc then acc ++ [v] else acc
/-- what of a set stands in a list of occurrences, each where it stands first -/
def od (set : Int) (acc L : List Int) : List Int := L.foldl (stp set) acc
/-- the i-th; -1: none -/
def fnd (k : Int) (acc : List Int) : Int := acc.getD k.toNat (-1)
/-- the first n laid in a list of numbers -/
def pkl (acc : List Int) : Nat → Int
  | 0 => 0
  | n + 1 => ior (pkl acc n) (if (n : Int) < 6 then ishl (acc.getD n 0) (4 + 4 * (n : Int)) else 0)
def vo (c : Int) : Option Int := if 97 ≤ c ∧ c ≤ 104 then some (c - 97) else none
/-- n symbols of statement k, from the i-th on; rows 11 how many, 12 which, 6 the name of an assignment or a call -/
def sy (P : Pg) (k : Int) : Nat → Int → List Int
  | 0, _ => []
  | n + 1, i => P 12 (16 * k + i) :: sy P k n (i + 1)
def oc (P : Pg) (k : Int) : List Int := (sy P k (P 11 k).toNat 0).filterMap vo ++ (if P 1 k = 0 then [P 6 k] else [])
def ocs (P : Pg) : Nat → Int → List Int
  | 0, _ => []
  | n + 1, k => oc P k ++ ocs P n (k + 1)
/-- what the reference knows of a list under way -/
def Acc (M : sl_M) (acc : List Int) : Prop := M 1 0 44 = acc.length ∧ M 1 0 43 = pkl acc acc.length ∧ (∀ v, v < 8 → (bt (M 1 0 42) v = true ↔ (v : Int) ∈ acc)) ∧ (∀ v, v ∈ acc → 0 ≤ v ∧ v < 8) ∧ acc.Nodup
def FAc (M N : sl_M) : Prop := ∀ o i j, ¬ (o = 1 ∧ i = 0 ∧ 42 ≤ j ∧ j ≤ 44) → N o i j = M o i j
theorem od_app (set : Int) (acc L K : List Int) : od set acc (L ++ K) = od set (od set acc L) K := List.foldl_append ..
theorem stp_len {set : Int} {acc : List Int} {v : Int} : acc.length ≤ (stp set acc v).length := by
  unfold stp
  by_cases q : bt set v.toNat = true ∧ v ∉ acc
  · rw [if_pos q]; simp
  · rw [if_neg q]; exact Nat.le_refl _
theorem getD_left {L K : List Int} {n : Nat} {d : Int} (h : n < L.length) : (L ++ K).getD n d = L.getD n d := by simp [List.getD, List.getElem?_append_left h]
theorem getD_none {L : List Int} {n : Nat} {d : Int} (h : L.length ≤ n) : L.getD n d = d := by simp [List.getD, List.getElem?_eq_none h]
theorem pkl_app (acc : List Int) (v : Int) : ∀ n, n ≤ acc.length → pkl (acc ++ [v]) n = pkl acc n := by
  intro n
  induction n with
  | zero => intro _; rfl
  | succ n ih =>
    intro h
    rw [pkl, pkl, ih (by omega), getD_left (by omega)]
theorem nodup_len' : ∀ (n : Nat) (acc : List Int), acc.Nodup → (∀ v, v ∈ acc → 0 ≤ v ∧ v < (n : Int)) → acc.length ≤ n := by
  intro n
  induction n with
  | zero =>
    intro acc _ h
    cases acc with
    | nil => exact Nat.le_refl _
    | cons a t => have := h a (by simp); omega
  | succ n ih =>
    intro acc hd h
    by_cases q : (n : Int) ∈ acc
    · have h1 := ih (acc.erase (n : Int)) (hd.erase _) (fun v hv => by
        have h2 := (List.Nodup.mem_erase_iff hd).mp hv
        have h3 := h v h2.2
        have h4 := h2.1
        omega)
      rw [List.length_erase_of_mem q] at h1
      omega
    · have h1 := ih acc hd (fun v hv => by
        have h3 := h v hv
        have h4 : v ≠ (n : Int) := fun z => q (z ▸ hv)
        omega)
      omega
theorem nodup_len {acc : List Int} (h : acc.Nodup) (h8 : ∀ v, v ∈ acc → 0 ≤ v ∧ v < 8) : acc.length ≤ 8 := nodup_len' 8 acc h h8
section K
variable {l : Launch} {M : sl_M} {Q : sl_R} {P : Pg}
theorem kX10_lists {v : Int} {acc : List Int} (hv : 0 ≤ v ∧ v < 8) (hA : Acc M acc) (hn : v ∉ acc) (hQ : ∀ N, FAc M N → Acc N (acc ++ [v]) → Q none N) : sl_Runs l mX10_lists [vR 1 0, vI (ishl 1 v)] M Q := by
  have h8 := nodup_len hA.2.2.2.2 hA.2.2.2.1
  have hlen := hA.1
  have tst : ∀ (N : sl_M) (k : Int), 0 ≤ k → k < 8 → (iand (ishr (iand (ishl 1 v) (ixor (N 1 0 42) (-1))) k) 1 = 1 ↔ (k = v ∧ bt (N 1 0 42) k.toNat = false)) := by
    intro N k k0 k1
    rw [has1 (by omega), bt_iand, bt_shl hv, bt_not _ (by omega)]
    simp
    intro _
    omega
  -- behind v
  have lp2 : ∀ (m : Nat) (k : Int) (N : sl_M), k = 8 - (m : Int) → v < k → Q none N → sl_At l mX10_lists 2 [(0, vR 1 0), (1, vI (ishl 1 v)), (2, vI k)] [] N Q := by
    intro m
    induction m with
    | zero => intro k N ek kv hq; exact vX10_lists_2 fun _ _ _ => ⟨fun _ => hq, fun q => by omega⟩
    | succ m ih =>
      intro k N ek kv hq
      refine vX10_lists_2 fun _ _ _ => ⟨fun q => by omega, fun q => ⟨fun _ => ⟨by omega, ih (k + 1) N (by omega) (by omega) hq⟩, fun z => ?_⟩⟩
      have := (tst N k (by omega) (by omega)).mp z
      omega
  have bv : bt (M 1 0 42) v.toNat = false := by
    rw [← Bool.not_eq_true, hA.2.2.1 v.toNat (by omega), show ((v.toNat : Nat) : Int) = v by omega]
    exact hn
  have lp1 : ∀ (m : Nat) (k : Int), k = v - (m : Int) → 0 ≤ k → sl_At l mX10_lists 2 [(0, vR 1 0), (1, vI (ishl 1 v)), (2, vI k)] [] M Q := by
    intro m
    induction m with
    | zero =>
      intro k ek k0
      have ek : k = v := by omega
      subst ek
      refine vX10_lists_2 fun _ _ _ => ⟨fun q => by omega, fun q => ⟨fun z => (z ((tst M k (by omega) (by omega)).mpr ⟨rfl, bv⟩)).elim, fun _ M5 e5 => ?_⟩⟩
      have h5 : M5 1 0 44 = acc.length := by rw [e5]; simp [sl_wr]; exact hlen
      rw [h5]
      refine ⟨by omega, fun M7 e7 M8 e8 => ⟨by omega, lp2 (8 - (k + 1)).toNat (k + 1) M8 (by omega) (by omega) (hQ M8 ?_ ?_)⟩⟩
      · intro o i j z
        rw [e8, e7, e5]
        simp only [sl_wr]
        rw [if_neg (by omega), if_neg (by omega), if_neg (by omega)]
      · have h42 : M7 1 0 42 = M 1 0 42 := by rw [e7, e5]; simp [sl_wr]
        rw [h42] at e8
        refine ⟨?_, ?_, fun w hw => ?_, fun w hw => ?_, ?_⟩
        · rw [e8, e7]; simp [sl_wr]
        · have e43 : M8 1 0 43 = ior (M 1 0 43) (if 6 ≤ M 1 0 44 then 0 else ishl k (4 + 4 * M 1 0 44)) := by rw [e8, e7, e5]; simp [sl_wr]
          rw [e43, hlen, hA.2.1, List.length_append, show [k].length = 1 from rfl, pkl, pkl_app acc k _ (Nat.le_refl _)]
          have g : (acc ++ [k]).getD acc.length 0 = k := by simp
          rw [g]
          by_cases q6 : (6 : Int) ≤ (acc.length : Int)
          · rw [if_pos q6, if_neg (by omega)]
          · rw [if_neg q6, if_pos (by omega)]
        · have e42 : M8 1 0 42 = ior (M 1 0 42) (ishl 1 k) := by rw [e8]; exact sl_wr_s
          rw [e42, bt_ior, bt_shl hv, Bool.or_eq_true, hA.2.2.1 w hw]
          simp
        · rcases List.mem_append.mp hw with z | z
          · exact hA.2.2.2.1 w z
          · have : w = k := by simpa using z
            omega
        · rw [List.nodup_append]
          refine ⟨hA.2.2.2.2, by simp, fun a ha c hc => ?_⟩
          have : c = k := by simpa using hc
          subst this
          intro z; subst z; exact hn ha
    | succ m ih =>
      intro k ek k0
      refine vX10_lists_2 fun _ _ _ => ⟨fun q => by omega, fun q => ⟨fun _ => ⟨by omega, ih (k + 1) (by omega) (by omega)⟩, fun z => ?_⟩⟩
      have := (tst M k (by omega) (by omega)).mp z
      omega
  exact eX10_lists (vX10_lists_0 fun _ _ => lp1 v.toNat 0 (by omega) (by omega))
theorem kX10_meets {set v k : Int} {acc : List Int} (hv : 0 ≤ v ∧ v < 8) (hk : 0 ≤ k) (hA : Acc M acc) (hQ : ∀ N, FAc M N → Acc N (stp set acc v) → Q (some (vI (fnd k (stp set acc v)))) N) : sl_Runs l mX10_meets [vR 1 0, vI set, vI v, vI k, vI (fnd k acc)] M Q := by
  have hlen := hA.1
  have t : iand (ishr (iand set (ixor (M 1 0 42) (-1))) v) 1 = 1 ↔ (bt set v.toNat = true ∧ v ∉ acc) := by
    have h := hA.2.2.1 v.toNat (by omega)
    rw [show ((v.toNat : Nat) : Int) = v by omega] at h
    rw [has1 (by omega), bt_iand, bt_not _ (by omega), ← h]
    simp
  refine eX10_meets (vX10_meets_0 fun _ _ _ _ _ => ⟨fun q => ?_, fun q => ?_⟩)
  · have q' := t.mp q
    have es : stp set acc v = acc ++ [v] := by unfold stp; rw [if_pos q']
    intro y ey
    refine kX10_lists hv hA q'.2 (fun N f a => ⟨rfl, ?_⟩)
    have := hQ N f (by rw [es]; exact a)
    rw [es] at this
    have e : y = fnd k (acc ++ [v]) := by
      rw [ey, hlen]
      unfold fnd
      by_cases z : (acc.length : Int) = k
      · rw [if_neg (fun w => w z), show k.toNat = acc.length by omega]; simp
      · rw [if_pos z]
        by_cases z2 : k.toNat < acc.length
        · rw [getD_left z2]
        · rw [getD_none (by omega), getD_none (by simp; omega)]
    rw [e]; exact this
  · have q' : ¬ (bt set v.toNat = true ∧ v ∉ acc) := fun z => q (t.mpr z)
    have es : stp set acc v = acc := by unfold stp; rw [if_neg q']
    have := hQ M (fun _ _ _ _ => rfl) (by rw [es]; exact hA)
    rw [es] at this
    exact this
end K
