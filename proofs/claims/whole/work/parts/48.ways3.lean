/-! EQUIV 18: who warms whom, one way after another -/
abbrev Wf4 := Nat → Nat
abbrev upd1 (w : Nat → Nat) (k o : Nat) : Nat → Nat := fun j => if j = k then o else w j
/-- lists, one behind another -/
def catN (f : Nat → List (Nat → Nat)) : Nat → List (Nat → Nat)
  | 0 => []
  | o + 1 => catN f o ++ f o
/-- all ways that go on from one -/
def wyL (n : Nat) (al : Nat → Nat) : Nat → Nat → (Nat → Nat) → Nat → List (Nat → Nat)
  | 0, _, w, _ => [w]
  | m + 1, k, w, S => catN (fun o => if opW al k S o then wyL n al m (k + 1) (upd1 w k o) (S ||| 2 ^ o) else []) n
abbrev cntL (p o : Nat) (L : List (Nat → Nat)) : Int := ((L.countP (fun w => decide (w p = o)) : Nat) : Int)
theorem catN_len (f : Nat → List (Nat → Nat)) : ∀ k, (((catN f k).length : Nat) : Int) = sumN (fun o => (((f o).length : Nat) : Int)) k
  | 0 => rfl
  | k + 1 => by rw [catN, List.length_append, Int.natCast_add, catN_len f k, sumN_s]
theorem catN_cnt (f : Nat → List (Nat → Nat)) (p o : Nat) : ∀ k, cntL p o (catN f k) = sumN (fun q => cntL p o (f q)) k
  | 0 => rfl
  | k + 1 => by
    have ih := catN_cnt f p o k
    unfold cntL at ih ⊢
    rw [catN, List.countP_append, Int.natCast_add, ih, sumN_s]
theorem catN_mem {f : Nat → List (Nat → Nat)} {w : Nat → Nat} : ∀ {k : Nat}, w ∈ catN f k → ∃ o, o < k ∧ w ∈ f o
  | 0, h => by cases h
  | k + 1, h => by
    rw [catN, List.mem_append] at h
    rcases h with h | h
    · obtain ⟨o, a, b⟩ := catN_mem h
      exact ⟨o, by omega, b⟩
    · exact ⟨k, by omega, h⟩
section
variable {n : Nat} {al : Nat → Nat}
theorem wyL_len : ∀ (m k : Nat) (w : Nat → Nat) (S : Nat), (((wyL n al m k w S).length : Nat) : Int) = nB n al m k S
  | 0, _, _, _ => rfl
  | m + 1, k, w, S => by
    rw [wyL, catN_len, nB]
    refine sumN_congr (fun o _ => ?_)
    split
    · exact wyL_len m _ _ _
    · rfl
theorem wyL_keep : ∀ (m k : Nat) (w : Nat → Nat) (S : Nat) (w' : Nat → Nat), w' ∈ wyL n al m k w S → ∀ j, j < k → w' j = w j
  | 0, k, w, S, w', h, j, hj => by
    rw [wyL, List.mem_singleton] at h
    rw [h]
  | m + 1, k, w, S, w', h, j, hj => by
    rw [wyL] at h
    obtain ⟨o, a, b⟩ := catN_mem h
    split at b
    · rw [wyL_keep m _ _ _ w' b j (by omega)]
      exact if_neg (by omega)
    · cases b
theorem cnt_all {p o : Nat} {L : List (Nat → Nat)} (h : ∀ w, w ∈ L → w p = o) : cntL p o L = ((L.length : Nat) : Int) := by
  have : L.countP (fun w => decide (w p = o)) = L.length := List.countP_eq_length.mpr (fun w hw => by rw [decide_eq_true_iff]; exact h w hw)
  unfold cntL
  rw [this]
theorem cnt_none {p o : Nat} {L : List (Nat → Nat)} (h : ∀ w, w ∈ L → w p ≠ o) : cntL p o L = 0 := by
  have : L.countP (fun w => decide (w p = o)) = 0 := List.countP_eq_zero.mpr (fun w hw => by rw [decide_eq_true_iff]; exact h w hw)
  unfold cntL
  rw [this]
  rfl
theorem wyL_cnt {p o : Nat} (ho : o < n) : ∀ (m k : Nat) (w : Nat → Nat) (S : Nat), k + m = n → k ≤ p → p < n → cntL p o (wyL n al m k w S) = thrW n al o (p - k) k S
  | 0, k, w, S, e, h1, h2 => by omega
  | m + 1, k, w, S, e, h1, h2 => by
    rw [wyL, catN_cnt]
    by_cases z : k = p
    · subst z
      rw [Nat.sub_self, thrW, show n - 1 - k = m by omega]
      have : ∀ q, q < n → cntL k o (if opW al k S q then wyL n al m (k + 1) (upd1 w k q) (S ||| 2 ^ q) else []) = if q = o then (if opW al k S o then nB n al m (k + 1) (S ||| 2 ^ o) else 0) else 0 := fun q hq => by
        by_cases y : opW al k S q
        · rw [if_pos y]
          have kp : ∀ w', w' ∈ wyL n al m (k + 1) (upd1 w k q) (S ||| 2 ^ q) → w' k = q := fun w' hw => by
            rw [wyL_keep m _ _ _ w' hw k (by omega)]
            exact if_pos rfl
          by_cases u : q = o
          · subst u
            rw [if_pos rfl, if_pos y, cnt_all kp, wyL_len]
          · rw [if_neg u, cnt_none (fun w' hw => by rw [kp w' hw]; exact u)]
        · rw [if_neg y]
          by_cases u : q = o
          · subst u
            rw [if_pos rfl, if_neg y]
            rfl
          · rw [if_neg u]
            rfl
      rw [sumN_congr this, sumN_pt, if_pos ho]
    · rw [show p - k = (p - (k + 1)) + 1 by omega, thrW]
      refine sumN_congr (fun q _ => ?_)
      split
      · exact wyL_cnt ho m _ _ _ (by omega) (by omega) h2
      · rfl
theorem catN_head (f : Nat → List (Nat → Nat)) {j : Nat} (hj : f j ≠ []) (h : ∀ q, q < j → f q = []) : ∀ k, j < k → (catN f k).head? = (f j).head?
  | 0, z => by omega
  | k + 1, z => by
    rw [catN, List.head?_append]
    by_cases e : j = k
    · subst e
      have : ∀ i, i ≤ j → catN f i = [] := fun i hi => by
        induction i with
        | zero => rfl
        | succ i ih => rw [catN, ih (by omega), h i (by omega)]; rfl
      rw [this j (Nat.le_refl _)]
      rfl
    · rw [catN_head f hj h k (by omega)]
      cases hf : f j with
      | nil => exact absurd hf hj
      | cons a l => rfl
theorem wyL_head (hn : n ≤ 7) : ∀ (m k : Nat) (w : Nat → Nat) (S : Nat), k + m = n → 0 < nB n al m k S → ∃ w', (wyL n al m k w S).head? = some w' ∧ ∀ j, j < m → w' (k + j) = fW n al j k S
  | 0, k, w, S, e, h => ⟨w, rfl, fun j hj => by omega⟩
  | m + 1, k, w, S, e, h => by
    obtain ⟨f1, f2, f3⟩ := nB_first hn e h
    obtain ⟨w', u1, u2⟩ := wyL_head hn m (k + 1) (upd1 w k (fo n al k S)) (S ||| 2 ^ fo n al k S) (by omega) f2.2
    refine ⟨w', ?_, fun j hj => ?_⟩
    · rw [wyL, catN_head _ (j := fo n al k S) _ _ n f1]
      · rw [if_pos f2.1, u1]
      · rw [if_pos f2.1]
        intro z
        rw [z] at u1
        cases u1
      · intro q hq
        by_cases y : opW al k S q
        · rw [if_pos y]
          have := f3 q hq
          have a := wyL_len (n := n) (al := al) m (k + 1) (upd1 w k q) (S ||| 2 ^ q)
          have b := nB_bd (al := al) hn m (k + 1) (S ||| 2 ^ q)
          have : ¬ 0 < nB n al m (k + 1) (S ||| 2 ^ q) := fun z => this ⟨y, z⟩
          exact List.length_eq_zero_iff.mp (by omega)
        · rw [if_neg y]
    · cases j with
      | zero =>
        have mem : w' ∈ wyL n al m (k + 1) (upd1 w k (fo n al k S)) (S ||| 2 ^ fo n al k S) := List.mem_of_mem_head? u1
        rw [Nat.add_zero, fW, wyL_keep m _ _ _ w' mem k (by omega)]
        exact if_pos rfl
      | succ j =>
        rw [fW, show k + (j + 1) = k + 1 + j by omega]
        exact u2 j (by omega)
end
/-- the set of those who are taken -/
def usN (w : Nat → Nat) : Nat → Nat
  | 0 => 0
  | k + 1 => usN w k ||| 2 ^ w k
/-- by how many all are told apart -/
def injN (w : Nat → Nat) (k : Nat) : Prop := ∀ i j, i < k → j < k → w i = w j → i = j
section
variable {w : Nat → Nat} {n : Nat}
theorem usN_bit : ∀ (k o : Nat), (usN w k).testBit o = true ↔ ∃ j, j < k ∧ w j = o
  | 0, o => by
    rw [usN, Nat.zero_testBit]
    exact ⟨fun z => (by cases z), fun ⟨j, a, _⟩ => (by omega)⟩
  | k + 1, o => by
    rw [usN, Nat.testBit_or, Bool.or_eq_true, usN_bit k o, Nat.testBit_two_pow, decide_eq_true_iff]
    constructor
    · rintro (⟨j, a, b⟩ | a)
      · exact ⟨j, by omega, b⟩
      · exact ⟨k, by omega, a⟩
    · rintro ⟨j, a, b⟩
      by_cases e : j = k
      · subst e; exact Or.inr b
      · exact Or.inl ⟨j, by omega, b⟩
theorem usN_lt (hv : ∀ j, j < n → w j < n) : ∀ k, k ≤ n → usN w k < 2 ^ n
  | 0, _ => Nat.two_pow_pos n
  | k + 1, h => or_lt (usN_lt hv k (by omega)) (Nat.pow_lt_pow_right (by omega) (hv k (by omega)))
theorem usN_bc (hn : n ≤ 7) (hv : ∀ j, j < n → w j < n) (hi : injN w n) : ∀ k, k ≤ n → bc (usN w k) = k
  | 0, _ => bc_0
  | k + 1, h => by
    have p7 := pow_le7 hn
    have lt := usN_lt hv k (by omega)
    have nb : (usN w k).testBit (w k) = false := by
      rw [← Bool.not_eq_true]
      intro z
      obtain ⟨j, a, b⟩ := (usN_bit k (w k)).mp z
      have := hi j k (by omega) (by omega) b
      omega
    have := hv k (by omega)
    rw [usN, bc_or (w k) (by omega) _ (by omega) nb, usN_bc hn hv hi k (by omega)]
theorem surj (hn : n ≤ 7) (hv : ∀ j, j < n → w j < n) (hi : injN w n) {o : Nat} (ho : o < n) : ∃ p, p < n ∧ w p = o := by
  have e := bc_full n hn _ (usN_lt hv n (Nat.le_refl _)) (usN_bc hn hv hi n (Nat.le_refl _))
  refine (usN_bit n o).mp ?_
  rw [e, Nat.testBit_two_pow_sub_one, decide_eq_true_iff]
  exact ho
theorem usN_congr {v : Nat → Nat} : ∀ {k : Nat}, (∀ j, j < k → v j = w j) → usN v k = usN w k
  | 0, _ => rfl
  | k + 1, h => by rw [usN, usN, usN_congr (k := k) (fun j hj => h j (by omega)), h k (by omega)]
/-- who is warmed, when so many of those who drank are through -/
def orW (D : Nat) (w : Nat → Nat) : Nat → Nat
  | 0 => 0
  | p + 1 => orW D w p ||| (if D.testBit p = true then 2 ^ w p else 0)
theorem orW_bit {D : Nat} : ∀ (k o : Nat), (orW D w k).testBit o = true ↔ ∃ p, p < k ∧ D.testBit p = true ∧ w p = o
  | 0, o => by
    rw [orW, Nat.zero_testBit]
    exact ⟨fun z => (by cases z), fun ⟨j, a, _⟩ => (by omega)⟩
  | k + 1, o => by
    rw [orW, Nat.testBit_or, Bool.or_eq_true, orW_bit k o]
    by_cases z : D.testBit k = true
    · rw [if_pos z, Nat.testBit_two_pow, decide_eq_true_iff]
      constructor
      · rintro (⟨p, a, b, c⟩ | a)
        · exact ⟨p, by omega, b, c⟩
        · exact ⟨k, by omega, z, a⟩
      · rintro ⟨p, a, b, c⟩
        by_cases e : p = k
        · subst e; exact Or.inr c
        · exact Or.inl ⟨p, by omega, b, c⟩
    · rw [if_neg z, Nat.zero_testBit]
      constructor
      · rintro (⟨p, a, b, c⟩ | a)
        · exact ⟨p, by omega, b, c⟩
        · cases a
      · rintro ⟨p, a, b, c⟩
        by_cases e : p = k
        · subst e; exact absurd b z
        · exact Or.inl ⟨p, by omega, b, c⟩
theorem orW_lt {D : Nat} (hv : ∀ j, j < n → w j < n) : ∀ k, k ≤ n → orW D w k < 2 ^ n
  | 0, _ => Nat.two_pow_pos n
  | k + 1, h => by
    refine or_lt (orW_lt hv k (by omega)) ?_
    split
    · exact Nat.pow_lt_pow_right (by omega) (hv k (by omega))
    · exact Nat.two_pow_pos n
theorem orW_eq (hn : n ≤ 7) (hv : ∀ j, j < n → w j < n) (hi : injN w n) {D W : Nat} (hW : W < 2 ^ n) : orW D w n = W ↔ ∀ p, p < n → (D.testBit p = true ↔ W.testBit (w p) = true) := by
  constructor
  · intro e p hp
    rw [← e, orW_bit]
    constructor
    · exact fun z => ⟨p, hp, z, rfl⟩
    · rintro ⟨q, a, b, c⟩
      have := hi q p a hp c
      subst this
      exact b
  · intro H
    refine Nat.eq_of_testBit_eq (fun o => ?_)
    rw [Bool.eq_iff_iff, orW_bit]
    by_cases ho : o < n
    · obtain ⟨p, a, b⟩ := surj hn hv hi ho
      subst b
      rw [← H p a]
      constructor
      · rintro ⟨q, u, v, x⟩
        have := hi q p u a x
        subst this
        exact v
      · exact fun z => ⟨p, a, z, rfl⟩
    · constructor
      · rintro ⟨q, u, v, x⟩
        have := hv q u
        omega
      · intro z
        have : 2 ^ n ≤ 2 ^ o := Nat.pow_le_pow_right (by omega) (by omega)
        rw [Nat.testBit_lt_two_pow (by omega)] at z
        cases z
/-- so many keep to what may be -/
abbrev okW (al : Nat → Nat) (w : Nat → Nat) (k : Nat) : Prop := ∀ p, p < k → (al p).testBit (w p) = true
theorem way_iff (hn : n ≤ 7) (hv : ∀ j, j < n → w j < n) (hi : injN w n) (ho : ∀ j, j < n → w j ≠ j) {D W : Nat → Nat} {m : Nat} (hW : ∀ i, i < m → W i < 2 ^ n) : (∀ i, i < m → orW (D i) w n = W i) ↔ okW (alW n D W m) w n := by
  have p7 := pow_le7 hn
  have bit : ∀ p, p < n → ((alW n D W m p).testBit (w p) = true ↔ ∀ j, j < m → ((D j).testBit p = true ↔ (W j).testBit (w p) = true)) := fun p hp => by
    have := hv p hp
    rw [alW_bit m (fun j hj => by have := hW j hj; omega) p (w p) (by omega) (by omega)]
    exact ⟨fun z => z.2.2, fun z => ⟨this, ho p hp, z⟩⟩
  constructor
  · intro H p hp
    exact (bit p hp).mpr (fun j hj => (orW_eq hn hv hi (hW j hj)).mp (H j hj) p hp)
  · intro H i him
    exact (orW_eq hn hv hi (hW i him)).mpr (fun p hp => (bit p hp).mp (H p hp) i him)
end
section
variable {xs : List Int} {d : Nat} {h : mM} {c : Kc} {n : Nat} {al : Nat → Nat}
/-- the rows of nights, as the reference has them -/
def Sn (g : mM) (x : Int) (D W : Nat → Nat) (m : Nat) : Prop := ∀ i, i < m → g 135 (60 * x + ((2 * i : Nat) : Int)) = ((D i : Nat) : Int) ∧ g 135 (60 * x + ((2 * i + 1 : Nat) : Int)) = ((W i : Nat) : Int)
theorem m_isWay {g : mM} (hn : n ≤ 7) (n0 : g 131 0 = (n : Int)) {x : Int} (hx : 0 ≤ x ∧ x < 4) {m : Nat} (hm : m ≤ 10) {D W : Nat → Nat} (sn : Sn g x D W m) (hD : ∀ i, i < m → D i < 128) {w : Nat → Nat} (hw : ∀ j : Nat, j < n → g 143 (j : Int) = ((w j : Nat) : Int)) (hv : ∀ j, j < n → w j < n) : C xs d 185 0 [mR 130, mI x, mI (m : Int)] g = some ([mI (b2i (∀ i, i < m → orW (D i) w n = W i))], g) := by
  have p7 := pow_le7 hn
  rw [c_M_isWay]
  have key : ∀ (r i : Nat) (x4 x5 x6 : mv), i + r = m → (∀ j, j < i → orW (D j) w n = W j) → X xs d k_M_isWay 2 [mR 130, mI x, mI (m : Int), mI (i : Int), x4, x5, x6] [] g = some ([mI (b2i (∀ i, i < m → orW (D i) w n = W i))], g) := by
    intro r
    induction r with
    | zero =>
      intro i x4 x5 x6 hi ok
      obtain rfl : i = m := by omega
      rw [e_M_isWay_2]
      refine if_n (by omega) ?_
      rw [b2i_y ok]
    | succ r ih =>
      intro i x4 x5 x6 hi ok
      obtain ⟨s1, s2⟩ := sn i (by omega)
      have hd := hD i (by omega)
      rw [e_M_isWay_2]
      refine if_y (by omega) ?_
      refine if_y (by omega) ?_
      refine if_y (by omega) ?_
      refine if_y (by omega) ?_
      refine if_y (by omega) ?_
      rw [show 60 * x + 2 * (i : Int) = 60 * x + ((2 * i : Nat) : Int) by omega, s1, fL2i_id (by omega) (by omega)]
      have st : ∀ p : Nat, p < n → X xs d k_M_isWay 21 [mR 130, mI x, mI (m : Int), mI (i : Int), mI ((D i : Nat) : Int), mI ((orW (D i) w p : Nat) : Int), mI (p : Int)] [] g = X xs d k_M_isWay 21 [mR 130, mI x, mI (m : Int), mI (i : Int), mI ((D i : Nat) : Int), mI ((orW (D i) w (p + 1) : Nat) : Int), mI ((p + 1 : Nat) : Int)] [] g := by
        intro p hp
        have l1 := orW_lt (D := D i) hv p (by omega)
        have wv := hv p hp
        have l2 : 2 ^ w p < 2 ^ n := Nat.pow_lt_pow_right (by omega) wv
        rw [e_M_isWay_21, n0]
        refine if_y (by omega) ?_
        refine cI_of (m_isInN hd (by omega)) ?_
        by_cases z : (D i).testBit p = true
        · refine if_n ((by rw [b2i_y z]; decide)) ?_
          refine if_y (by omega) ?_
          rw [e_M_isWay_41]
          refine if_y (by omega) ?_
          rw [hw p hp, shl_small _ (by omega), or_nat _ (by omega) _ (by omega), orW, if_pos z]
          rfl
        · refine if_y (b2i_n z) ?_
          rw [e_M_isWay_41]
          refine if_y (by omega) ?_
          rw [show (0 : Int) = ((0 : Nat) : Int) from rfl, or_nat _ (by omega) _ (by omega), orW, if_neg z]
          rfl
      refine (run_to (fun p : Nat => X xs d k_M_isWay 21 [mR 130, mI x, mI (m : Int), mI (i : Int), mI ((D i : Nat) : Int), mI ((orW (D i) w p : Nat) : Int), mI (p : Int)] [] g) st).trans ?_
      rw [e_M_isWay_21, n0]
      refine if_n (by omega) ?_
      refine if_y (by omega) ?_
      refine if_y (by omega) ?_
      refine if_y (by omega) ?_
      refine if_y (by omega) ?_
      refine if_y (by omega) ?_
      rw [show 60 * x + 2 * (i : Int) + 1 = 60 * x + ((2 * i + 1 : Nat) : Int) by omega, s2]
      by_cases z : orW (D i) w n = W i
      · refine if_y (congrArg Int.ofNat z) ?_
        refine if_y (by omega) ?_
        exact ih (i + 1) _ _ _ (by omega) (fun j hj => by
          by_cases e : j = i
          · subst e; exact z
          · exact ok j (by omega))
      · rw [if_neg (by omega), b2i_n (fun y => z (y i (by omega)))]
  exact key m 0 (mC 0) (mC 0) (mC 0) (by omega) (fun j hj => by omega)
/-- what is counted is what a list says -/
def Acc (n : Nat) (L : List (Nat → Nat)) (g : mM) : Prop := g 130 34 = ((L.length : Nat) : Int) ∧ (∀ p o : Nat, p < n → o < n → g 145 ((7 * p + o : Nat) : Int) = cntL p o L) ∧ ∀ w0, L.head? = some w0 → ∀ p : Nat, p < n → g 144 (p : Int) = ((w0 p : Nat) : Int)
def WyF (g g' : mM) : Prop := (∀ a, a ≠ 130 → a ≠ 143 → a ≠ 144 → a ≠ 145 → g' a = g a) ∧ ∀ j, j ≠ 34 → g' 130 j = g 130 j
theorem WyF.rf {g : mM} : WyF g g := ⟨fun _ _ _ _ _ => rfl, fun _ _ => rfl⟩
theorem WyF.tr {g k l : mM} (a : WyF g k) (b : WyF k l) : WyF g l := ⟨fun x p q r s => (b.1 x p q r s).trans (a.1 x p q r s), fun j hj => (b.2 j hj).trans (a.2 j hj)⟩
theorem WyF.up {g k : mM} (a : WyF g k) {b : Nat} (hb : b = 143 ∨ b = 144 ∨ b = 145) (i v : Int) : WyF g (upM k b i v) := ⟨fun x p q r s => by rw [up_row (by omega)]; exact a.1 x p q r s, fun j hj => by rw [up_ne (by omega)]; exact a.2 j hj⟩
theorem WyF.u34 {g k : mM} (a : WyF g k) (v : Int) : WyF g (upM k 130 34 v) := ⟨fun x p q r s => by rw [up_row (by omega)]; exact a.1 x p q r s, fun j hj => by rw [up_at, if_neg hj]; exact a.2 j hj⟩
theorem cntL_bd (p o : Nat) (L : List (Nat → Nat)) : 0 ≤ cntL p o L ∧ cntL p o L ≤ ((L.length : Nat) : Int) := by
  have : L.countP (fun w => decide (w p = o)) ≤ L.length := List.countP_le_length
  unfold cntL
  omega
theorem cntL_app (p o : Nat) (L : List (Nat → Nat)) (w : Nat → Nat) : cntL p o (L ++ [w]) = cntL p o L + if w p = o then 1 else 0 := by
  unfold cntL
  rw [List.countP_append, Int.natCast_add, List.countP_singleton]
  by_cases z : w p = o
  · rw [if_pos z, if_pos (by rw [decide_eq_true_iff]; exact z)]
    rfl
  · rw [if_neg z, if_neg (by rw [decide_eq_true_iff]; exact z)]
    rfl
theorem m_counts {g : mM} (hn : n ≤ 7) (n0 : g 131 0 = (n : Int)) {L : List (Nat → Nat)} (A : Acc n L g) (lim : L.length ≤ 823543) {w : Nat → Nat} (hw : ∀ j : Nat, j < n → g 143 (j : Int) = ((w j : Nat) : Int)) (hv : ∀ j, j < n → w j < n) : ∃ g', C xs d 186 0 [mR 130] g = some ([], g') ∧ Acc n (L ++ [w]) g' ∧ WyF g g' ∧ g' 143 = g 143 := by
  obtain ⟨A1, A2, A3⟩ := A
  rw [c_M_counts]
  have key : ∀ (r p : Nat) (k : mM), p + r = n → k 130 34 = ((L.length : Nat) : Int) → (∀ q o : Nat, q < n → o < n → k 145 ((7 * q + o : Nat) : Int) = if q < p then cntL q o (L ++ [w]) else cntL q o L) → (∀ q : Nat, q < n → k 144 (q : Int) = if L = [] ∧ q < p then ((w q : Nat) : Int) else g 144 (q : Int)) → WyF g k → k 143 = g 143 → ∃ g', X xs d k_M_counts 2 [mR 130, mI (p : Int)] [] k = some ([], g') ∧ Acc n (L ++ [w]) g' ∧ WyF g g' ∧ g' 143 = g 143 := by
    intro r
    induction r with
    | zero =>
      intro p k hp k1 k2 k3 kf k4
      obtain rfl : p = n := by omega
      refine ⟨upM k 130 34 (((L ++ [w]).length : Nat) : Int), ?_, ⟨up_eq, fun q o hq ho => ?_, fun w0 e q hq => ?_⟩, kf.u34 _, ?_⟩
      · have e : ((L.length : Nat) : Int) + 1 = (((L ++ [w]).length : Nat) : Int) := by rw [List.length_append]; rfl
        rw [e_M_counts_2, kf.1 131 (by omega) (by omega) (by omega) (by omega), n0, k1]
        refine if_n (by omega) ?_
        refine if_y (by omega) ?_
        rw [e]
      · rw [up_ne (by omega), k2 q o hq ho, if_pos hq]
      · rw [up_ne (by omega), k3 q hq]
        cases hL : L with
        | nil =>
          rw [hL] at e
          obtain rfl : w = w0 := Option.some.inj e
          rw [if_pos ⟨rfl, hq⟩]
        | cons a l =>
          rw [if_neg (fun z => by cases z.1)]
          refine A3 w0 ?_ q hq
          rw [hL] at e ⊢
          exact e
      · rw [up_row (by omega)]
        exact k4
    | succ r ih =>
      intro p k hp k1 k2 k3 kf k4
      have wv := hv p (by omega)
      have wE : k 143 (p : Int) = ((w p : Nat) : Int) := by rw [k4]; exact hw p (by omega)
      have cb := cntL_bd p (w p) L
      have ca := cntL_app p (w p) L w
      rw [if_pos rfl] at ca
      -- the second half of a turn
      have half : ∀ l : mM, l 130 34 = ((L.length : Nat) : Int) → l 145 = k 145 → l 143 = k 143 → (∀ q : Nat, q < n → l 144 (q : Int) = if L = [] ∧ q < p + 1 then ((w q : Nat) : Int) else g 144 (q : Int)) → WyF g l → ∃ g', X xs d k_M_counts 19 [mR 130, mI (p : Int)] [] l = some ([], g') ∧ Acc n (L ++ [w]) g' ∧ WyF g g' ∧ g' 143 = g 143 := by
        intro l l1 l2 l3 l4 lf
        have v0 : l 145 ((7 * p + w p : Nat) : Int) = cntL p (w p) L := by rw [l2, k2 p (w p) (by omega) wv, if_neg (by omega)]
        obtain ⟨g', r1, r2⟩ := ih (p + 1) (upM l 145 ((7 * p + w p : Nat) : Int) (cntL p (w p) (L ++ [w]))) (by omega) (by rw [up_ne (by omega)]; exact l1) (fun q o hq ho => by
          rw [up_at]
          by_cases z : q = p ∧ o = w p
          · obtain ⟨rfl, rfl⟩ := z
            rw [if_pos rfl, if_pos (by omega)]
          · rw [if_neg (by omega), l2, k2 q o hq ho]
            by_cases y : q = p
            · subst y
              have : ¬ w q = o := fun e => z ⟨rfl, e.symm⟩
              rw [if_neg (by omega), if_pos (by omega), cntL_app, if_neg this, Int.add_zero]
            · by_cases u : q < p
              · rw [if_pos u, if_pos (by omega)]
              · rw [if_neg u, if_neg (by omega)]) (fun q hq => by rw [up_ne (by omega)]; exact l4 q hq) (lf.up (by omega) _ _) (by rw [up_row (by omega), l3]; exact k4)
        refine ⟨g', ?_, r2⟩
        rw [e_M_counts_19, l3, wE]
        refine if_y (by omega) ?_
        refine if_y (by omega) ?_
        refine if_y (by omega) ?_
        refine if_y (by omega) ?_
        rw [show 7 * (p : Int) + ((w p : Nat) : Int) = ((7 * p + w p : Nat) : Int) by omega, v0, ← ca]
        refine if_y (by omega) ?_
        refine if_y (by omega) ?_
        refine if_y (by omega) ?_
        exact r1
      rw [e_M_counts_2, kf.1 131 (by omega) (by omega) (by omega) (by omega), n0, k1]
      by_cases z : L = []
      · obtain ⟨g', r1, r2⟩ := half (upM k 144 (p : Int) ((w p : Nat) : Int)) (by rw [up_ne (by omega)]; exact k1) (up_row (by omega)) (up_row (by omega)) (fun q hq => by
          rw [up_at]
          by_cases y : q = p
          · subst y; rw [if_pos rfl, if_pos ⟨z, by omega⟩]
          · rw [if_neg (by omega), k3 q hq]
            by_cases u : q < p
            · rw [if_pos ⟨z, u⟩, if_pos ⟨z, by omega⟩]
            · rw [if_neg (fun t => u t.2), if_neg (by omega)]) (kf.up (by omega) _ _)
        refine ⟨g', ?_, r2⟩
        refine if_y (by omega) ?_
        refine if_y ((by rw [z]; rfl)) ?_
        refine if_y (by omega) ?_
        refine if_y (by omega) ?_
        rw [wE]
        exact r1
      · obtain ⟨g', r1, r2⟩ := half k k1 rfl rfl (fun q hq => by rw [k3 q hq, if_neg (fun t => z t.1), if_neg (fun t => z t.1)]) kf
        refine ⟨g', ?_, r2⟩
        refine if_y (by omega) ?_
        refine if_n ((by have := List.length_pos_iff.mpr z; omega)) ?_
        exact r1
  exact key n 0 g (by omega) A1 (fun q o hq ho => by rw [if_neg (by omega)]; exact A2 q o hq ho) (fun q hq => by rw [if_neg (by omega)]) WyF.rf rfl
theorem m_mayHave {g : mM} {k q : Nat} (hk : k < 7) (hq : q < 7) {w : Nat → Nat} (hw : ∀ j : Nat, j < k → g 143 (j : Int) = ((w j : Nat) : Int)) : C xs d 187 0 [mR 130, mI (k : Int), mI (q : Int)] g = some ([mI (b2i (k ≠ q ∧ (usN w k).testBit q = false))], g) := by
  have key : ∀ (r j : Nat), j + r = k → X xs d k_M_mayHave 9 [mR 130, mI (k : Int), mI (q : Int), mI (b2i (k ≠ q ∧ ∀ i, i < j → w i ≠ q)), mI (j : Int)] [] g = some ([mI (b2i (k ≠ q ∧ (usN w k).testBit q = false))], g) := by
    intro r
    induction r with
    | zero =>
      intro j hj
      obtain rfl : j = k := by omega
      have e : (j ≠ q ∧ ∀ i, i < j → w i ≠ q) ↔ (j ≠ q ∧ (usN w j).testBit q = false) := by
        rw [← Bool.not_eq_true, usN_bit]
        exact ⟨fun z => ⟨z.1, fun ⟨i, a, b⟩ => z.2 i a b⟩, fun z => ⟨z.1, fun i a b => z.2 ⟨i, a, b⟩⟩⟩
      have b01 := b2i_01 (P := j ≠ q ∧ ∀ i, i < j → w i ≠ q)
      rw [e_M_mayHave_9]
      refine if_n (by omega) ?_
      refine if_y (by omega) ?_
      by_cases z : j ≠ q ∧ ∀ i, i < j → w i ≠ q
      · rw [b2i_y z, b2i_y (e.mp z)]
      · rw [b2i_n z, b2i_n (fun y => z (e.mpr y))]
    | succ r ih =>
      intro j hj
      have nx := ih (j + 1) (by omega)
      rw [e_M_mayHave_9]
      refine if_y (by omega) ?_
      by_cases z : k ≠ q ∧ ∀ i, i < j → w i ≠ q
      · refine if_n ((by rw [b2i_y z]; decide)) ?_
        refine if_y (by omega) ?_
        rw [hw j (by omega)]
        by_cases y : w j = q
        · rw [b2i_n (fun t => t.2 j (by omega) y)] at nx
          refine if_y ((by rw [y])) ?_
          rw [e_M_mayHave_22, e_M_mayHave_23]
          refine if_y (by omega) ?_
          exact nx
        · rw [b2i_y ⟨z.1, fun i hi => by
            by_cases e : i = j
            · subst e; exact y
            · exact z.2 i (by omega)⟩] at nx
          refine if_n ((by omega)) ?_
          rw [e_M_mayHave_23]
          refine if_y (by omega) ?_
          exact nx
      · rw [b2i_n (fun t => z ⟨t.1, fun i hi => t.2 i (by omega)⟩)] at nx
        refine if_y (b2i_n z) ?_
        rw [e_M_mayHave_22, e_M_mayHave_23]
        refine if_y (by omega) ?_
        exact nx
  have st := key k 0 (by omega)
  rw [c_M_mayHave]
  by_cases z : k = q
  · rw [b2i_n (fun t => t.1 z)] at st
    refine if_y ((by rw [z])) ?_
    rw [e_M_mayHave_6]
    exact st
  · rw [b2i_y ⟨z, fun i hi => by omega⟩] at st
    refine if_n ((by omega)) ?_
    rw [e_M_mayHave_6]
    exact st
end
