/-! EQUIV 9: where evenings settle -/
theorem lshl7 : ((Int32.ofInt 7).toInt64 &&& 63) = 7 := by decide
theorem lor7 {x w : Nat} (hx : x < 2 ^ 49) (hw : w < 128) : fLor (fLshl (x : Int) 7) (w : Int) = ((x * 128 + w : Nat) : Int) := by
  have e : (Int64.ofInt (x : Int) <<< 7 ||| Int64.ofInt (w : Int)).toBitVec.toNat = x * 128 + w := by
    rw [Int64.toBitVec_or, Int64.toBitVec_shiftLeft, Int64.toBitVec_ofInt, Int64.toBitVec_ofInt, BitVec.ofInt_natCast, BitVec.ofInt_natCast, BitVec.toNat_or]
    have h7 : ((Int64.toBitVec 7).smod 64) = 7#64 := by decide
    rw [h7]
    show ((BitVec.ofNat 64 x <<< (7#64).toNat).toNat ||| (BitVec.ofNat 64 w).toNat) = _
    rw [BitVec.toNat_shiftLeft, BitVec.toNat_ofNat, BitVec.toNat_ofNat, BitVec.toNat_ofNat]
    rw [Nat.mod_eq_of_lt (show w < 2 ^ 64 by omega), Nat.mod_eq_of_lt (show x < 2 ^ 64 by omega)]
    show (x <<< 7 % 2 ^ 64 ||| w) = _
    have e2 : x <<< 7 = x * 128 := by rw [Nat.shiftLeft_eq]
    rw [e2, Nat.mod_eq_of_lt (show x * 128 < 2 ^ 64 by omega), ← e2, ← Nat.shiftLeft_add_eq_or_of_lt (i := 7) (by omega), e2]
  have s : fLshl (x : Int) 7 = (Int64.ofInt (x : Int) <<< 7).toInt := by unfold fLshl; rw [lshl7]
  rw [s]
  unfold fLor
  rw [Int64.ofInt_toInt]
  show (Int64.ofInt (x : Int) <<< 7 ||| Int64.ofInt (w : Int)).toBitVec.toInt = _
  rw [BitVec.toInt_eq_toNat_of_lt (by rw [e]; omega), e]
/-- the warmth of the first so many as one -/
def oneU (c : Kc) : Nat → Nat
  | 0 => 0
  | k + 1 => oneU c k * 128 + (c 5 (k : Int)).toNat
theorem oneU_lt {c : Kc} (w : WfC c) : ∀ k, k ≤ (c 0 0).toNat → oneU c k < 128 ^ k
  | 0, _ => by simp [oneU]
  | k + 1, h => by
    have := oneU_lt w k (by omega)
    have := (w.2.2.2.2.2.2.2.2 k (by omega) (by omega)).2.2.1
    rw [oneU, Nat.pow_succ]
    omega
theorem oneU_inj {c e : Kc} (hc : ∀ p, 0 ≤ p → p < c 0 0 → 0 ≤ c 5 p ∧ c 5 p ≤ 99) (he : ∀ p, 0 ≤ p → p < c 0 0 → 0 ≤ e 5 p ∧ e 5 p ≤ 99) : ∀ k : Nat, k ≤ (c 0 0).toNat → (oneU c k = oneU e k ↔ ∀ p, 0 ≤ p → p < (k : Int) → c 5 p = e 5 p)
  | 0, _ => ⟨fun _ p h1 h2 => absurd h2 (by omega), fun _ => rfl⟩
  | k + 1, h => by
    have ih := oneU_inj hc he k (by omega)
    have a1 := hc k (by omega) (by omega)
    have a2 := he k (by omega) (by omega)
    rw [oneU, oneU]
    constructor
    · intro q p h1 h2
      by_cases e1 : p = k
      · subst e1
        omega
      · exact ih.mp (by omega) p h1 (by omega)
    · intro q
      rw [ih.mpr (fun p h1 h2 => q p h1 (by omega)), q k (by omega) (by omega)]
theorem evC_f {c : Kc} {aw : Int} {f : Nat} (x : Int) (h1 : f ≠ 1) (h5 : f ≠ 5) : evC c aw f x = c f x := by unfold evC ntC; rw [if_neg h5, if_neg h1]; exact if_neg h5
theorem evK_f {c : Kc} {f : Nat} (x : Int) (h1 : f ≠ 1) (h5 : f ≠ 5) : ∀ k, evK c k f x = c f x := fun k => by
  induction k with
  | zero => rfl
  | succ k ih => rw [evK, evC_f x h1 h5, ih]
/-- alike behind so many evenings and so many others -/
def Ek (c : Kc) (i j : Nat) : Prop := ∀ p, 0 ≤ p → p < c 0 0 → evK c i 5 p = evK c j 5 p
theorem warmI_evK {c : Kc} (k : Nat) (p : Int) : warmI (evK c k) p = warmI c p := by
  unfold warmI
  rw [evK_f _ (by omega) (by omega), evK_f _ (by omega) (by omega), evK_f _ (by omega) (by omega), evK_f (c := c) (f := 7) _ (by omega) (by omega), evK_f _ (by omega) (by omega), evK_f _ (by omega) (by omega)]
theorem Ek.step {c : Kc} {i j : Nat} (h : Ek c i j) : Ek c (i + 1) (j + 1) := fun p h1 h2 => by
  have e : ∀ k, evK c (k + 1) 5 p = max 0 (min 99 (evK c k 5 p + sumN (fun q => if (q : Int) ≠ -1 ∧ c 2 3 ≤ evK c k 5 (q : Int) ∧ c 7 (q : Int) ≠ -1 ∧ c 7 (q : Int) = p then warmI c (q : Int) else 0) (c 0 0).toNat) - 1 * c 2 4) := by
    intro k
    have e2 : evK c (k + 1) 5 p = max 0 (min 99 (evK c k 5 p + comN (evK c k) (-1) p (evK c k 0 0).toNat) - 1 * evK c k 2 4) := rfl
    rw [e2, evK_n, evK_f (c := c) (f := 2) 4 (by omega) (by omega)]
    unfold comN
    simp only [warmI_evK, evK_f (c := c) (f := 2) 3 (by omega) (by omega), evK_f (c := c) (f := 7) _ (by omega) (by omega)]
  rw [e, e, h p h1 h2]
  have : sumN (fun q => if (q : Int) ≠ -1 ∧ c 2 3 ≤ evK c i 5 (q : Int) ∧ c 7 (q : Int) ≠ -1 ∧ c 7 (q : Int) = p then warmI c (q : Int) else 0) (c 0 0).toNat = sumN (fun q => if (q : Int) ≠ -1 ∧ c 2 3 ≤ evK c j 5 (q : Int) ∧ c 7 (q : Int) ≠ -1 ∧ c 7 (q : Int) = p then warmI c (q : Int) else 0) (c 0 0).toNat := by
    refine sumN_congr (fun q hq => ?_)
    rw [h q (by omega) (by omega)]
  rw [this]
theorem Ek.steps {c : Kc} {i j : Nat} (h : Ek c i j) : ∀ m, Ek c (i + m) (j + m)
  | 0 => h
  | m + 1 => (h.steps m).step
theorem Ek.sym {c : Kc} {i j : Nat} (h : Ek c i j) : Ek c j i := fun p h1 h2 => (h p h1 h2).symm
theorem Ek.tr {c : Kc} {i j k : Nat} (h : Ek c i j) (g : Ek c j k) : Ek c i k := fun p h1 h2 => (h p h1 h2).trans (g p h1 h2)
theorem Ek.rounds {c : Kc} {k n : Nat} (h : Ek c k (k + n)) : ∀ t, Ek c k (k + t * n)
  | 0 => by rw [Nat.zero_mul, Nat.add_zero]; exact fun _ _ _ => rfl
  | t + 1 => by
    have := (h.rounds t).steps n
    rw [show k + (t + 1) * n = k + t * n + n by rw [Nat.succ_mul, Nat.add_assoc]]
    exact h.tr this
/-- what holds from far on holds from where any period does -/
theorem Ek.back {c : Kc} {k n P : Nat} (h : Ek c k (k + n)) (hn : 1 ≤ n) {m : Nat} (g : Ek c m (m + P)) : Ek c k (k + P) := by
  have h1 := h.rounds m
  have h2 : m ≤ k + m * n := Nat.le_trans (Nat.le_mul_of_pos_right m hn) (Nat.le_add_left _ _)
  obtain ⟨r, hr⟩ := Nat.exists_eq_add_of_le h2
  have h3 := g.steps r
  rw [← hr, show m + P + r = k + P + m * n by omega] at h3
  have h4 := h1.steps P
  have e : k + m * n + P = k + P + m * n := by omega
  rw [e] at h4
  exact h1.tr (h3.tr h4.sym |>.tr (fun _ _ _ => rfl))
section
variable {xs : List Int} {d : Nat} {c : Kc} {h : mM}
theorem t_warmthAsOne (k : CoT 21 c h) (w : WfC c) : C xs d 241 0 [mR 21] h = some ([mL ((oneU c (c 0 0).toNat : Nat) : Int)], h) := by
  have hn := w.1
  rw [c_Co_warmthAsOne]
  have st : ∀ i : Nat, i < (c 0 0).toNat → X xs d k_Co_warmthAsOne 4 [mR 21, mL ((oneU c i : Nat) : Int), mC 0, mI (i : Int)] [] h = X xs d k_Co_warmthAsOne 4 [mR 21, mL ((oneU c (i + 1) : Nat) : Int), mC 0, mI ((i + 1 : Nat) : Int)] [] h := by
    intro i hi
    have hl := oneU_lt w i (by omega)
    have hp : 128 ^ i ≤ 128 ^ 6 := Nat.pow_le_pow_right (by omega) (by omega)
    have a1 := (w.2.2.2.2.2.2.2.2 i (by omega) (by omega)).2.2.1
    rw [e_Co_warmthAsOne_4, k.n, show h 25 (i : Int) = c 5 i from k.w _ (by omega) (by omega)]
    refine if_y (by omega) ?_
    refine if_y (by omega) ?_
    refine if_y (by omega) ?_
    have e : (c 5 (i : Int)) = (((c 5 (i : Int)).toNat : Nat) : Int) := by omega
    rw [e, lor7 (by omega) (by omega)]
    rfl
  refine (run_to (fun i : Nat => X xs d k_Co_warmthAsOne 4 [mR 21, mL ((oneU c i : Nat) : Int), mC 0, mI (i : Int)] [] h) st).trans ?_
  rw [e_Co_warmthAsOne_4, k.n, if_neg (by omega)]
def seL : List Nat := [21, 22, 23, 24, 25, 26, 27, 28, 29, 129]
theorem evK_w (w : WfC c) (hg : c 1 0 ≤ 9999) {i : Nat} (hi : i ≤ 1000) : ∀ p, 0 ≤ p → p < c 0 0 → 0 ≤ evK c i 5 p ∧ evK c i 5 p ≤ 99 := fun p h1 h2 =>
  ((evK_wf w hg i hi).2.2.2.2.2.2.2.2 p h1 (by rw [evK_n]; exact h2)).2.2.1
/-- the period that the class finds, and where it begins -/
theorem t_findPeriod (w : WfC c) (hg : c 1 0 ≤ 9999) (k : CoT 12 c h) : ∃ h' v, C xs d 34 0 [mR 0] h = some ([mI v], h') ∧ (∀ i : Nat, i ≤ 200 → h' 129 i = ((oneU (evK c i) (c 0 0).toNat : Nat) : Int)) ∧ Ow seL h h' ∧ ((v = -1 ∧ ∀ i : Nat, i < 200 → ¬ Ek c i 200) ∨ ∃ i : Nat, i < 200 ∧ v = 200 - (i : Int) ∧ Ek c i 200 ∧ ∀ j : Nat, i < j → j < 200 → ¬ Ek c j 200) := by
  obtain ⟨g, r1, r2, -, r4⟩ := t_takeFrom (xs := xs) (d := d) (b0 := 21) (b1 := 12) (by omega) k w.1
  have key : ∀ (m i : Nat) (g : mM), i + m = 201 → 1 ≤ i → CoT 21 (evK c (i - 1)) g → (∀ j : Nat, j < i → g 129 j = ((oneU (evK c j) (c 0 0).toNat : Nat) : Int)) → Ow seL h g → ∃ h', X xs d k_T_findPeriod 14 [mR 0, mI (i : Int)] [] g = X xs d k_T_findPeriod 33 [mR 0, mI 199] [] h' ∧ (∀ j : Nat, j ≤ 200 → h' 129 j = ((oneU (evK c j) (c 0 0).toNat : Nat) : Int)) ∧ Ow seL h h' := by
    intro m
    induction m with
    | zero =>
      intro i g hi h1 kg fg og
      rw [e_T_findPeriod_14, if_pos (by omega)]
      exact ⟨g, rfl, fun j hj => fg j (by omega), og⟩
    | succ m ih =>
      intro i g hi h1 kg fg og
      obtain ⟨g2, r1, r2, r3⟩ := t_passEvening (xs := xs) (d := d) (b := 21) (by omega) kg (evK_wf w hg _ (by omega)) (by rw [evK_g]; omega) (-1) (by omega)
      have r2' : CoT 21 (evK c i) g2 := by
        have : i - 1 + 1 = i := by omega
        rw [← this]
        exact r2
      have wi := evK_wf w hg i (by omega)
      have k3 : CoT 21 (evK c i) (upM g2 129 i ((oneU (evK c i) (c 0 0).toNat : Nat) : Int)) := r2'.mv (fun a h1 h2 => up_row (by omega))
      obtain ⟨h', s1, s2, s3⟩ := ih (i + 1) _ (by omega) (by omega) (by rw [Nat.add_sub_cancel]; exact k3) (fun j hj => by
        rw [up_at]
        by_cases e : j = i
        · subst e; rw [if_pos rfl]
        · rw [if_neg (by omega), r3 129 (by decide)]
          exact fg j (by omega)) ((og.tr (N := seL) r3 (fun a z => z) (by simp [seL])).up (by simp [seL]))
      refine ⟨h', ?_, s2, s3⟩
      rw [e_T_findPeriod_14, if_neg (by omega)]
      refine cI_of (r1) ?_
      have e1 := t_warmthAsOne (xs := xs) (d := d) r2' wi
      rw [evK_n] at e1
      refine cL_of (e1) ?_
      refine if_y (by omega) ?_
      refine if_y (by omega) ?_
      exact s1
  have e1 := t_warmthAsOne (xs := xs) (d := d) r2 w
  obtain ⟨h', s1, s2, s3⟩ := key 200 1 (upM g 129 0 ((oneU c (c 0 0).toNat : Nat) : Int)) (by omega) (by omega) (r2.mv (fun a h1 h2 => up_row (by omega))) (fun j hj => by
    obtain rfl : j = 0 := by omega
    rw [up_at]
    exact if_pos rfl) ((r4.wk (M := seL) (by decide)).up (by simp [seL]))
  have eqv : ∀ i : Nat, i ≤ 200 → (h' 129 i = h' 129 200 ↔ Ek c i 200) := by
    intro i hi
    show h' 129 (i : Int) = h' 129 ((200 : Nat) : Int) ↔ _
    rw [s2 i hi, s2 200 (by omega)]
    have := oneU_inj (c := evK c i) (e := evK c 200) (by rw [evK_n]; exact evK_w w hg (by omega)) (by rw [evK_n]; exact evK_w w hg (by omega)) (c 0 0).toNat (by rw [evK_n]; omega)
    have hn := w.1
    constructor
    · intro q p h1 h2
      exact this.mp (by omega) p h1 (by omega)
    · intro q
      rw [this.mpr (fun p h1 h2 => q p h1 (by omega))]
  have scan : ∀ (m : Nat), m ≤ 200 → (∀ j : Nat, m ≤ j → j < 200 → ¬ Ek c j 200) → ∃ v, X xs d k_T_findPeriod 33 [mR 0, mI ((m : Int) - 1)] [] h' = some ([mI v], h') ∧ ((v = -1 ∧ ∀ i : Nat, i < 200 → ¬ Ek c i 200) ∨ ∃ i : Nat, i < 200 ∧ v = 200 - (i : Int) ∧ Ek c i 200 ∧ ∀ j : Nat, i < j → j < 200 → ¬ Ek c j 200) := by
    intro m
    induction m with
    | zero =>
      intro _ hj
      refine ⟨-1, ?_, Or.inl ⟨rfl, fun i hi => hj i (by omega) hi⟩⟩
      rw [e_T_findPeriod_33, if_pos (by omega)]
    | succ m ih =>
      intro hm hj
      have e0 : (((m + 1 : Nat) : Int) - 1) = (m : Int) := by omega
      rw [e0]
      by_cases q : Ek c m 200
      · refine ⟨200 - (m : Int), ?_, Or.inr ⟨m, by omega, rfl, q, fun j h1 h2 => hj j (by omega) h2⟩⟩
        rw [e_T_findPeriod_33]
        refine if_n (by omega) ?_
        refine if_y (by omega) ?_
        refine if_y ((eqv m (by omega)).mpr q) ?_
        refine if_y (by omega) ?_
        rfl
      · obtain ⟨v, v1, v2⟩ := ih (by omega) (fun j h1 h2 => by
          by_cases e : j = m
          · subst e; exact q
          · exact hj j (by omega) h2)
        refine ⟨v, ?_, v2⟩
        rw [e_T_findPeriod_33]
        refine if_n (by omega) ?_
        refine if_y (by omega) ?_
        refine if_n ((fun z => q ((eqv m (by omega)).mp z))) ?_
        refine if_y (by omega) ?_
        exact v1
  obtain ⟨v, v1, v2⟩ := scan 200 (by omega) (fun j h1 h2 => by omega)
  refine ⟨h', v, ?_, s2, s3, v2⟩
  rw [c_T_findPeriod]
  refine cV_of (r1) ?_
  refine cL_of (e1) ?_
  exact s1.trans v1
theorem t_firstSettled {P : Nat} (hP : 1 ≤ P ∧ P ≤ 200) (w : WfC c) (hg : c 1 0 ≤ 9999) (f : ∀ i : Nat, i ≤ 200 → h 129 i = ((oneU (evK c i) (c 0 0).toNat : Nat) : Int)) (ex : Ek c (200 - P) 200) : ∃ k : Nat, C xs d 35 0 [mR 0, mI (P : Int)] h = some ([mI (k : Int)], h) ∧ k + P ≤ 200 ∧ Ek c k (k + P) ∧ ∀ j, j < k → ¬ Ek c j (j + P) := by
  have eqv : ∀ i j : Nat, i ≤ 200 → j ≤ 200 → (h 129 i = h 129 j ↔ Ek c i j) := by
    intro i j hi hj
    rw [f i hi, f j hj]
    have := oneU_inj (c := evK c i) (e := evK c j) (by rw [evK_n]; exact evK_w w hg (by omega)) (by rw [evK_n]; exact evK_w w hg (by omega)) (c 0 0).toNat (by rw [evK_n]; omega)
    have hn := w.1
    constructor
    · intro q p h1 h2
      exact this.mp (by omega) p h1 (by omega)
    · intro q
      rw [this.mpr (fun p h1 h2 => q p h1 (by omega))]
  have scan : ∀ (m i : Nat), i + m + P = 200 → (∀ j, j < i → ¬ Ek c j (j + P)) → ∃ k : Nat, X xs d k_T_firstSettled 2 [mR 0, mI (P : Int), mI (i : Int)] [] h = some ([mI (k : Int)], h) ∧ k + P ≤ 200 ∧ Ek c k (k + P) ∧ ∀ j, j < k → ¬ Ek c j (j + P) := by
    intro m
    induction m with
    | zero =>
      intro i hi hj
      refine ⟨i, ?_, by omega, by rw [show i + P = 200 by omega, show i = 200 - P by omega]; exact ex, hj⟩
      rw [e_T_firstSettled_2]
      refine if_y (by omega) ?_
      refine if_n (by omega) ?_
      rfl
    | succ m ih =>
      intro i hi hj
      by_cases q : Ek c i (i + P)
      · refine ⟨i, ?_, by omega, q, hj⟩
        rw [e_T_firstSettled_2]
        refine if_y (by omega) ?_
        refine if_y (by omega) ?_
        refine if_y (by omega) ?_
        refine if_y (by omega) ?_
        refine if_y (by omega) ?_
        have := (eqv i (i + P) (by omega) (by omega)).mpr q
        rw [Int.natCast_add] at this
        refine if_y (this) ?_
        rfl
      · obtain ⟨k, v1, v2⟩ := ih (i + 1) (by omega) (fun j hj2 => by
          by_cases e : j = i
          · subst e; exact q
          · exact hj j (by omega))
        refine ⟨k, ?_, v2⟩
        rw [e_T_firstSettled_2]
        refine if_y (by omega) ?_
        refine if_y (by omega) ?_
        refine if_y (by omega) ?_
        refine if_y (by omega) ?_
        refine if_y (by omega) ?_
        have := fun z => q ((eqv i (i + P) (by omega) (by omega)).mp z)
        rw [Int.natCast_add] at this
        refine if_n (this) ?_
        refine if_y (by omega) ?_
        exact v1
  rw [c_T_firstSettled]
  exact scan (200 - P) 0 (by omega) (fun j hj => by omega)
end
section
variable {xs : List Int} {d : Nat} {c : Kc} {h : mM}
def Eb (c : Kc) (h : mM) : Prop := ∀ i : Nat, i ≤ 200 → ∀ p, 0 ≤ p → p < c 0 0 → h 140 (7 * (i : Int) + p) = evK c i 5 p
theorem m_isAlike (k : CoM c h) (w : WfC c) (f : Eb c h) {i j : Nat} (hi : i ≤ 200) (hj : j ≤ 200) : (C xs d 167 0 [mR 130, mI (i : Int), mI (j : Int)] h = some ([mI 0], h) ∧ ¬ Ek c i j) ∨ (C xs d 167 0 [mR 130, mI (i : Int), mI (j : Int)] h = some ([mI 1], h) ∧ Ek c i j) := by
  have hn := w.1
  rw [c_M_isAlike]
  have key : ∀ (m : Nat) (p : Nat), p + m = (c 0 0).toNat → (∀ q, 0 ≤ q → q < (p : Int) → evK c i 5 q = evK c j 5 q) → (X xs d k_M_isAlike 2 [mR 130, mI (i : Int), mI (j : Int), mI (p : Int)] [] h = some ([mI 0], h) ∧ ¬ Ek c i j) ∨ (X xs d k_M_isAlike 2 [mR 130, mI (i : Int), mI (j : Int), mI (p : Int)] [] h = some ([mI 1], h) ∧ Ek c i j) := by
    intro m
    induction m with
    | zero =>
      intro p hp hq
      refine Or.inr ⟨?_, fun q h1 h2 => hq q h1 (by omega)⟩
      rw [e_M_isAlike_2, k.n, if_neg (by omega)]
    | succ m ih =>
      intro p hp hq
      by_cases e : evK c i 5 p = evK c j 5 p
      · have st : X xs d k_M_isAlike 2 [mR 130, mI (i : Int), mI (j : Int), mI (p : Int)] [] h = X xs d k_M_isAlike 2 [mR 130, mI (i : Int), mI (j : Int), mI ((p + 1 : Nat) : Int)] [] h := by
          rw [e_M_isAlike_2, k.n]
          refine if_y (by omega) ?_
          refine if_y (by omega) ?_
          refine if_y (by omega) ?_
          refine if_y (by omega) ?_
          refine if_y (by omega) ?_
          refine if_y (by omega) ?_
          refine if_y (by omega) ?_
          rw [f i hi p (by omega) (by omega), f j hj p (by omega) (by omega)]
          refine if_y (e) ?_
          refine if_y (by omega) ?_
          rfl
        rw [st]
        exact ih (p + 1) (by omega) (fun q h1 h2 => by
          by_cases e2 : q = p
          · subst e2; exact e
          · exact hq q h1 (by omega))
      · refine Or.inl ⟨?_, fun z => e (z p (by omega) (by omega))⟩
        rw [e_M_isAlike_2, k.n]
        refine if_y (by omega) ?_
        refine if_y (by omega) ?_
        refine if_y (by omega) ?_
        refine if_y (by omega) ?_
        refine if_y (by omega) ?_
        refine if_y (by omega) ?_
        refine if_y (by omega) ?_
        rw [f i hi p (by omega) (by omega), f j hj p (by omega) (by omega)]
        refine if_n (e) ?_
        rfl
  exact key (c 0 0).toNat 0 (by omega) (fun q h1 h2 => by omega)
/-- but at row 140, and what evenings change -/
def Od (h h' : mM) : Prop := (∀ a, a ≠ 131 → a ≠ 139 → a ≠ 140 → h' a = h a) ∧ ∀ k, (46 ≤ k ∨ k = 8) → h' 131 k = h 131 k
theorem Od.tr {h k g : mM} (p : Od h k) (q : Od k g) : Od h g := ⟨fun a h1 h2 h3 => (q.1 a h1 h2 h3).trans (p.1 a h1 h2 h3), fun j hj => (q.2 j hj).trans (p.2 j hj)⟩
theorem Od.of {h k : mM} (p : Oc h k) : Od h k := ⟨fun a h1 h2 _ => p.1 a h1 h2, p.2⟩
theorem m_notes (k : CoM c h) (w : WfC c) {n : Int} (h1 : 0 ≤ n ∧ n ≤ 200) : X xs d k_M_laysSettled 10 [mR 130, mI n, mI 0] [] h = X xs d k_M_laysSettled 10 [mR 130, mI n, mI (c 0 0)] [] (rowW h 140 (7 * n) (c 0 0) (fun j => c 5 (j - 7 * n))) := by
  have hn := w.1
  have st : ∀ i : Nat, i < (c 0 0).toNat → X xs d k_M_laysSettled 10 [mR 130, mI n, mI (i : Int)] [] (rowW h 140 (7 * n) i (fun j => c 5 (j - 7 * n))) = X xs d k_M_laysSettled 10 [mR 130, mI n, mI ((i + 1 : Nat) : Int)] [] (rowW h 140 (7 * n) ((i + 1 : Nat) : Int) (fun j => c 5 (j - 7 * n))) := by
    intro i hi
    rw [e_M_laysSettled_10, rowW_ne (show (131 : Nat) ≠ 140 by omega), k.n]
    refine if_y (by omega) ?_
    refine if_y (by omega) ?_
    refine if_y (by omega) ?_
    refine cI_of (m_personOf (by omega) (by omega)) ?_
    refine if_y (by omega) ?_
    refine if_y (by omega) ?_
    rw [rowW_ne (show (131 : Nat) ≠ 140 by omega), k.w _ (by omega) (by omega), rowW_up (by omega) (by show _ = c 5 (7 * n + (i : Int) - 7 * n); congr 1; omega)]
    rfl
  have := run_to (fun i : Nat => X xs d k_M_laysSettled 10 [mR 130, mI n, mI (i : Int)] [] (rowW h 140 (7 * n) i (fun j => c 5 (j - 7 * n)))) st
  rw [show (((c 0 0).toNat : Nat) : Int) = c 0 0 by omega] at this
  refine (congrArg (fun g => X xs d k_M_laysSettled 10 [mR 130, mI n, mI 0] [] g) (rowW_0 (h := h) (a := 140) (lo := 7 * n) (f := fun j => c 5 (j - 7 * n))).symm).trans ?_
  exact this
theorem m_fills (k : CoM c h) (w : WfC c) (hg : c 1 0 ≤ 9999) (x : mv) : ∃ h' x', X xs d k_M_laysSettled 5 [mR 130, mI 0, x] [] h = X xs d k_M_laysSettled 5 [mR 130, mI 201, x'] [] h' ∧ Eb c h' ∧ Od h h' ∧ h' 131 0 = c 0 0 := by
  have hn := w.1
  have key : ∀ (m i : Nat) (g : mM) (x : mv), i + m = 201 → CoM (evK c i) g → (∀ j : Nat, j < i → ∀ p, 0 ≤ p → p < c 0 0 → g 140 (7 * (j : Int) + p) = evK c j 5 p) → Od h g → ∃ h' x', X xs d k_M_laysSettled 5 [mR 130, mI (i : Int), x] [] g = X xs d k_M_laysSettled 5 [mR 130, mI 201, x'] [] h' ∧ Eb c h' ∧ Od h h' ∧ h' 131 0 = c 0 0 := by
    intro m
    induction m with
    | zero =>
      intro i g x hi kg fg og
      obtain rfl : i = 201 := by omega
      exact ⟨g, x, rfl, fun i hi => fg i (by omega), og, by rw [kg.n, evK_n]⟩
    | succ m ih =>
      intro i g x hi kg fg og
      have wi := evK_wf w hg i (by omega)
      have n1 := m_notes (xs := xs) (d := d) kg wi (n := (i : Int)) (by omega)
      rw [evK_n] at n1
      have k1 : CoM (evK c i) (rowW g 140 (7 * (i : Int)) (c 0 0) (fun j => evK c i 5 (j - 7 * (i : Int)))) := kg.mv (rowW_ne (by omega))
      have hgi : evK c i 1 0 ≤ 19000 := by rw [evK_g]; omega
      obtain ⟨g2, r1, r2, r3⟩ := m_eveningGoes (xs := xs) (d := d) k1 wi hgi (aw := -1) (Or.inl rfl)
      obtain ⟨h', x', s1, s2, s3, s4⟩ := ih (i + 1) g2 (mI (c 0 0)) (by omega) r2 (fun j hj p h1 h2 => by
        rw [r3.1 140 (by omega) (by omega)]
        by_cases e : j = i
        · subst e
          rw [rowW_in (by omega)]
          congr 1
          omega
        · rw [rowW_out (by omega)]
          exact fg j (by omega) p h1 h2) (og.tr (Od.tr ⟨fun a h1 h2 h3 => rowW_ne h3, fun k hk => by rw [rowW_ne (by omega)]⟩ (Od.of r3)))
      refine ⟨h', x', ?_, s2, s3, s4⟩
      rw [e_M_laysSettled_5]
      refine if_n (by omega) ?_
      refine n1.trans ?_
      rw [e_M_laysSettled_10, k1.n, evK_n, if_neg (by omega)]
      refine cI_of (r1) ?_
      refine if_y (by omega) ?_
      exact s1
  exact key 201 0 h x (by omega) k (fun j hj => by omega) ⟨fun a _ _ _ => rfl, fun k _ => rfl⟩
theorem m_search (k : CoM c h) (w : WfC c) (f : Eb c h) (x : mv) : (X xs d k_M_laysSettled 41 [mR 130, mI 0, x] [] h = some ([mI 0], h) ∧ ∀ k n : Nat, 1 ≤ n → k + n ≤ 200 → ¬ Ek c k (k + n)) ∨ ∃ k1 n1 : Nat, X xs d k_M_laysSettled 41 [mR 130, mI 0, x] [] h = some ([mI 1], upM (upM h 130 26 (k1 : Int)) 130 27 (n1 : Int)) ∧ 1 ≤ n1 ∧ k1 + n1 ≤ 200 ∧ Ek c k1 (k1 + n1) ∧ (∀ n, 1 ≤ n → n < n1 → ¬ Ek c k1 (k1 + n)) ∧ ∀ j, j < k1 → ∀ n, 1 ≤ n → j + n ≤ 200 → ¬ Ek c j (j + n) := by
  have inner : ∀ (k0 m n : Nat), k0 + n + m = 201 → 1 ≤ n → k0 < 200 → (∀ n', 1 ≤ n' → n' < n → ¬ Ek c k0 (k0 + n')) → (X xs d k_M_laysSettled 46 [mR 130, mI (k0 : Int), mI (n : Int)] [] h = X xs d k_M_laysSettled 41 [mR 130, mI ((k0 : Int) + 1), mI (201 - (k0 : Int))] [] h ∧ ∀ n, 1 ≤ n → k0 + n ≤ 200 → ¬ Ek c k0 (k0 + n)) ∨ ∃ n1 : Nat, X xs d k_M_laysSettled 46 [mR 130, mI (k0 : Int), mI (n : Int)] [] h = some ([mI 1], upM (upM h 130 26 (k0 : Int)) 130 27 (n1 : Int)) ∧ 1 ≤ n1 ∧ k0 + n1 ≤ 200 ∧ Ek c k0 (k0 + n1) ∧ (∀ n, 1 ≤ n → n < n1 → ¬ Ek c k0 (k0 + n)) := by
    intro k0 m
    induction m with
    | zero =>
      intro n hi h1 h2 hj
      refine Or.inl ⟨?_, fun n' a b => hj n' a (by omega)⟩
      rw [e_M_laysSettled_46]
      refine if_y (by omega) ?_
      refine if_y (by omega) ?_
      refine if_y (by omega) ?_
      rw [show (n : Int) = 201 - (k0 : Int) by omega]
    | succ m ih =>
      intro n hi h1 h2 hj
      have al := m_isAlike (xs := xs) (d := d) k w f (i := k0) (j := k0 + n) (by omega) (by omega)
      rw [Int.natCast_add] at al
      rcases al with ⟨a1, a2⟩ | ⟨a1, a2⟩
      · have st : X xs d k_M_laysSettled 46 [mR 130, mI (k0 : Int), mI (n : Int)] [] h = X xs d k_M_laysSettled 46 [mR 130, mI (k0 : Int), mI ((n + 1 : Nat) : Int)] [] h := by
          rw [e_M_laysSettled_46]
          refine if_y (by omega) ?_
          refine if_n (by omega) ?_
          refine if_y (by omega) ?_
          refine cI_of (a1) ?_
          refine if_y (by omega) ?_
          refine if_y (by omega) ?_
          rfl
        rw [st]
        exact ih (n + 1) (by omega) (by omega) h2 (fun n' a b => by
          by_cases e : n' = n
          · subst e; exact a2
          · exact hj n' a (by omega))
      · refine Or.inr ⟨n, ?_, h1, by omega, a2, hj⟩
        rw [e_M_laysSettled_46]
        refine if_y (by omega) ?_
        refine if_n (by omega) ?_
        refine if_y (by omega) ?_
        refine cI_of (a1) ?_
        refine if_n (by omega) ?_
        rfl
  have key : ∀ (m k0 : Nat) (x : mv), k0 + m = 200 → (∀ j, j < k0 → ∀ n, 1 ≤ n → j + n ≤ 200 → ¬ Ek c j (j + n)) → (X xs d k_M_laysSettled 41 [mR 130, mI (k0 : Int), x] [] h = some ([mI 0], h) ∧ ∀ k n : Nat, 1 ≤ n → k + n ≤ 200 → ¬ Ek c k (k + n)) ∨ ∃ k1 n1 : Nat, X xs d k_M_laysSettled 41 [mR 130, mI (k0 : Int), x] [] h = some ([mI 1], upM (upM h 130 26 (k1 : Int)) 130 27 (n1 : Int)) ∧ 1 ≤ n1 ∧ k1 + n1 ≤ 200 ∧ Ek c k1 (k1 + n1) ∧ (∀ n, 1 ≤ n → n < n1 → ¬ Ek c k1 (k1 + n)) ∧ ∀ j, j < k1 → ∀ n, 1 ≤ n → j + n ≤ 200 → ¬ Ek c j (j + n) := by
    intro m
    induction m with
    | zero =>
      intro k0 x hi hj
      refine Or.inl ⟨?_, fun k n a b => hj k (by omega) n a b⟩
      rw [e_M_laysSettled_41, if_neg (by omega)]
    | succ m ih =>
      intro k0 x hi hj
      rcases inner k0 (200 - k0) 1 (by omega) (by omega) (by omega) (fun n' a b => by omega) with ⟨a1, a2⟩ | ⟨n1, a1, a2, a3, a4, a5⟩
      · have st : X xs d k_M_laysSettled 41 [mR 130, mI (k0 : Int), x] [] h = X xs d k_M_laysSettled 41 [mR 130, mI ((k0 + 1 : Nat) : Int), mI (201 - (k0 : Int))] [] h := by
          rw [e_M_laysSettled_41, if_pos (by omega)]
          exact a1
        rw [st]
        exact ih (k0 + 1) _ (by omega) (fun j a => by
          by_cases e : j = k0
          · subst e; exact a2
          · exact hj j (by omega))
      · refine Or.inr ⟨k0, n1, ?_, a2, a3, a4, a5, hj⟩
        rw [e_M_laysSettled_41, if_pos (by omega)]
        exact a1
  exact key 200 0 x (by omega) (fun j hj => by omega)
end
section
variable {xs : List Int} {d : Nat} {c : Kc} {h : mM}
def LkS (h h' : mM) : Prop := (∀ a, a ≠ 131 → a ≠ 139 → a ≠ 140 → h' a = h a) ∧ ∀ k, 0 ≤ k → k < 1656 → h' 131 k = h 131 k
theorem LkS.keep {h' : mM} (p : LkS h h') : Keep h h' := ⟨fun a z => p.1 a (fun e => by subst e; exact absurd z (by decide)) (fun e => by subst e; exact absurd z (by decide)) (fun e => by subst e; exact absurd z (by decide)), fun j _ => by rw [p.1 0 (by omega) (by omega) (by omega)], fun j _ => by rw [p.1 130 (by omega) (by omega) (by omega)], fun j hj => p.2 j (by omega) (by omega)⟩
theorem CoM.of131 {h' : mM} (k : CoM c h) (hn : c 0 0 ≤ 7) (e : ∀ k, 0 ≤ k → k < 46 → h' 131 k = h 131 k) : CoM c h' := by
  obtain ⟨k1, k2, k3, k4, k5, k6, k7, k8⟩ := k
  exact ⟨(e _ (by omega) (by omega)).trans k1, (e _ (by omega) (by omega)).trans k2, fun i a b => (e _ (by omega) (by omega)).trans (k3 i a b), fun i a b => (e _ (by omega) (by omega)).trans (k4 i a b), fun i a b => (e _ (by omega) (by omega)).trans (k5 i a b), fun i a b => (e _ (by omega) (by omega)).trans (k6 i a b), fun i a b => (e _ (by omega) (by omega)).trans (k7 i a b), fun i a b => (e _ (by omega) (by omega)).trans (k8 i a b)⟩
theorem m_laysSettled (k : CoM c h) (w : WfC c) (hg : c 1 0 ≤ 9999) : ∃ g, LkS h g ∧ CoM c g ∧ ((C xs d 168 0 [mR 130] h = some ([mI 0], g) ∧ ∀ k n : Nat, 1 ≤ n → k + n ≤ 200 → ¬ Ek c k (k + n)) ∨ ∃ k1 n1 : Nat, C xs d 168 0 [mR 130] h = some ([mI 1], upM (upM g 130 26 (k1 : Int)) 130 27 (n1 : Int)) ∧ 1 ≤ n1 ∧ k1 + n1 ≤ 200 ∧ Ek c k1 (k1 + n1) ∧ (∀ n, 1 ≤ n → n < n1 → ¬ Ek c k1 (k1 + n)) ∧ ∀ j, j < k1 → ∀ n, 1 ≤ n → j + n ≤ 200 → ¬ Ek c j (j + n)) := by
  obtain ⟨g, x', r1, r2, r3, r4⟩ := m_fills (xs := xs) (d := d) (kpM_co k w.1.2 (to := 2070) (by omega)) w hg (mC 0)
  have lk : LkS h (rsM g 2070) := by
    refine ⟨fun a h1 h2 h3 => ?_, fun k h1 h2 => ?_⟩
    · unfold rsM
      rw [rowU_ne h1, r3.1 a h1 h2 h3]
      exact rowW_ne h1
    · unfold rsM
      by_cases q : k < 46
      · rw [rowU_in ⟨h1, q⟩, r3.2 _ (by omega)]
        unfold kpM
        rw [rowW_in (by omega), show 2070 + k - 2070 = k by omega]
      · rw [rowU_out (by omega), r3.2 k (by omega)]
        exact rowW_out (by omega)
  have kM := k.of131 w.1.2 (fun j h1 h2 => lk.2 j h1 (by omega))
  have eb : Eb c (rsM g 2070) := fun i hi p h1 h2 => by
    have : rsM g 2070 140 = g 140 := rowU_ne (by omega)
    rw [this]
    exact r2 i hi p h1 h2
  have st : ∀ r, X xs d k_M_laysSettled 41 [mR 130, mI 0, x'] [] (rsM g 2070) = r → C xs d 168 0 [mR 130] h = r := by
    intro r hr
    rw [c_M_laysSettled]
    refine cV_of (m_keeps (by omega)) ?_
    refine r1.trans ?_
    rw [e_M_laysSettled_5, if_pos (by omega)]
    refine cV_of (m_restores (by omega)) ?_
    exact hr
  refine ⟨_, lk, kM, ?_⟩
  exact (m_search (xs := xs) (d := d) kM w eb x').imp (fun z => ⟨st _ z.1, z.2⟩) (fun ⟨k1, n1, z, y⟩ => ⟨k1, n1, st _ z, y⟩)
theorem seL_free : ∀ a ∈ seL, keptL.elem a = false ∧ a ≠ 0 ∧ a ≠ 130 ∧ a ≠ 131 := by decide
theorem LkS.m27 {g : mM} (p : LkS h g) (a b : Int) : Keep h (upM (upM g 130 26 a) 130 27 b) := (p.keep.upM2 26 a (by omega)).upM2 27 b (by omega)
/-- what class and reference find -/
theorem settles_both (w : WfC c) (hg : c 1 0 ≤ 9999) {v : Int} (hv : (v = -1 ∧ ∀ i : Nat, i < 200 → ¬ Ek c i 200) ∨ ∃ i : Nat, i < 200 ∧ v = 200 - (i : Int) ∧ Ek c i 200 ∧ ∀ j : Nat, i < j → j < 200 → ¬ Ek c j 200) {k1 n1 : Nat} (h1 : 1 ≤ n1) (h2 : k1 + n1 ≤ 200) (h3 : Ek c k1 (k1 + n1)) (h4 : ∀ n, 1 ≤ n → n < n1 → ¬ Ek c k1 (k1 + n)) : v = (n1 : Int) ∧ Ek c (200 - n1) 200 := by
  have e : Ek c (200 - n1) 200 := by
    have := h3.steps (200 - n1 - k1)
    rw [show k1 + (200 - n1 - k1) = 200 - n1 by omega, show k1 + n1 + (200 - n1 - k1) = 200 by omega] at this
    exact this
  rcases hv with ⟨_, no⟩ | ⟨i, hi, rfl, q, fr⟩
  · exact absurd e (no _ (by omega))
  · have a1 : ¬ i < 200 - n1 := fun z => fr _ z (by omega) e
    have b1 : Ek c k1 (k1 + (200 - i)) := h3.back h1 (m := i) (by rw [show i + (200 - i) = 200 by omega]; exact q)
    have b2 : ¬ 200 - i < n1 := fun z => h4 _ (by omega) z b1
    exact ⟨by omega, e⟩
theorem q_settles (R : Rel h) : QI xs d h 31 169 [] := by
  obtain ⟨c, k⟩ := R.co
  have w := k.2.2.1
  have hg := k.2.2.2.1
  have hn := w.1
  obtain ⟨g1, v, r1, r2, r3, r4⟩ := t_findPeriod (xs := xs) (d := d) w hg k.1
  have kT1 : CoT 12 c g1 := k.1.mv (fun a h1 h2 => r3 a (by simp [seL]; omega))
  have kM1 : ∀ s, CoM c (upM g1 0 0 s) := fun s => (CoM.z.mp k.2.1).mv (by rw [up_row (by omega), r3 131 (by decide)])
  by_cases hv : v = -1
  · obtain ⟨g, lk, kg, s⟩ := m_laysSettled (xs := xs) (d := d) (kM1 6) w hg
    rcases s with ⟨s1, s2⟩ | ⟨k1, n1, s1, s2, s3, s4, s5, s6⟩
    · refine QI.mkU R k (-1) 6 (g1 := g1) (g2 := g) ?_ kT1 (Keep.ow r3 seL_free) ?_ kg lk.keep (fun a h1 h2 => by rw [lk.1 a (by omega) (by omega) (by omega), up_row (by omega)]) (lk.1 0 (by omega) (by omega) (by omega)) w hg rfl
      · rw [c_T_settles]
        refine cI_of (r1) ?_
        refine if_y (hv) ?_
        refine cI_of (c_T_refuse xs d _ _) ?_
        rfl
      · rw [c_M_settles]
        refine cI_of (s1) ?_
        refine if_y (by omega) ?_
        refine cI_of (c_M_refuse xs d _ _) ?_
        rfl
    · have := (settles_both w hg r4 s2 s3 s4 s5).1
      omega
  · obtain ⟨g, lk, kg, s⟩ := m_laysSettled (xs := xs) (d := d) (kM1 0) w hg
    rcases s with ⟨s1, s2⟩ | ⟨k1, n1, s1, s2, s3, s4, s5, s6⟩
    · rcases r4 with ⟨q, _⟩ | ⟨i, hi, q1, q2, q3⟩
      · exact absurd q hv
      · exact absurd (show Ek c i (i + (200 - i)) by rw [show i + (200 - i) = 200 by omega]; exact q2) (s2 i (200 - i) (by omega) (by omega))
    · obtain ⟨e1, e2⟩ := settles_both w hg r4 s2 s3 s4 s5
      subst e1
      obtain ⟨k0, p1, p2, p3, p4⟩ := t_firstSettled (xs := xs) (d := d) (P := n1) (by omega) w hg r2 e2
      have a1 : ¬ k0 < k1 := fun z => s6 k0 z n1 s2 p2 p3
      have a2 : ¬ k1 < k0 := fun z => p4 k1 z s4
      obtain rfl : k0 = k1 := by omega
      refine QI.mkU R k (k0 : Int) 0 (g1 := g1) (g2 := upM (upM g 130 26 (k0 : Int)) 130 27 (n1 : Int)) ?_ kT1 (Keep.ow r3 seL_free) ?_ ((kg.z1 _ _).z1 _ _) (lk.m27 _ _) (fun a h1 h2 => by rw [up_row (by omega), up_row (by omega), lk.1 a (by omega) (by omega) (by omega), up_row (by omega)]) (by rw [up_row (by omega), up_row (by omega)]; exact lk.1 0 (by omega) (by omega) (by omega)) w hg rfl
      · rw [c_T_settles]
        refine cI_of (r1) ?_
        refine if_n (hv) ?_
        refine cI_of (p1) ?_
        refine cI_of (c_T_answer xs d _ _) ?_
        rfl
      · rw [c_M_settles]
        refine cI_of (s1) ?_
        refine if_n (by omega) ?_
        rw [up_at, if_neg (by omega), up_eq]
        refine cI_of (c_M_gives xs d _ _) ?_
        rfl
theorem q_period (R : Rel h) : QI xs d h 32 170 [] := by
  obtain ⟨c, k⟩ := R.co
  have w := k.2.2.1
  have hg := k.2.2.2.1
  have hn := w.1
  obtain ⟨g1, v, r1, r2, r3, r4⟩ := t_findPeriod (xs := xs) (d := d) w hg k.1
  have kT1 : CoT 12 c g1 := k.1.mv (fun a h1 h2 => r3 a (by simp [seL]; omega))
  have kM1 : ∀ s, CoM c (upM g1 0 0 s) := fun s => (CoM.z.mp k.2.1).mv (by rw [up_row (by omega), r3 131 (by decide)])
  by_cases hv : v = -1
  · obtain ⟨g, lk, kg, s⟩ := m_laysSettled (xs := xs) (d := d) (kM1 6) w hg
    rcases s with ⟨s1, s2⟩ | ⟨k1, n1, s1, s2, s3, s4, s5, s6⟩
    · refine QI.mkU R k (-1) 6 (g1 := g1) (g2 := g) ?_ kT1 (Keep.ow r3 seL_free) ?_ kg lk.keep (fun a h1 h2 => by rw [lk.1 a (by omega) (by omega) (by omega), up_row (by omega)]) (lk.1 0 (by omega) (by omega) (by omega)) w hg rfl
      · rw [c_T_period]
        refine cI_of (r1) ?_
        refine if_y (hv) ?_
        refine cI_of (c_T_refuse xs d _ _) ?_
        rfl
      · rw [c_M_period]
        refine cI_of (s1) ?_
        refine if_y (by omega) ?_
        refine cI_of (c_M_refuse xs d _ _) ?_
        rfl
    · have := (settles_both w hg r4 s2 s3 s4 s5).1
      omega
  · obtain ⟨g, lk, kg, s⟩ := m_laysSettled (xs := xs) (d := d) (kM1 0) w hg
    rcases s with ⟨s1, s2⟩ | ⟨k1, n1, s1, s2, s3, s4, s5, s6⟩
    · rcases r4 with ⟨q, _⟩ | ⟨i, hi, q1, q2, q3⟩
      · exact absurd q hv
      · exact absurd (show Ek c i (i + (200 - i)) by rw [show i + (200 - i) = 200 by omega]; exact q2) (s2 i (200 - i) (by omega) (by omega))
    · obtain ⟨e1, e2⟩ := settles_both w hg r4 s2 s3 s4 s5
      subst e1
      refine QI.mkU R k (n1 : Int) 0 (g1 := g1) (g2 := upM (upM g 130 26 (k1 : Int)) 130 27 (n1 : Int)) ?_ kT1 (Keep.ow r3 seL_free) ?_ ((kg.z1 _ _).z1 _ _) (lk.m27 _ _) (fun a h1 h2 => by rw [up_row (by omega), up_row (by omega), lk.1 a (by omega) (by omega) (by omega), up_row (by omega)]) (by rw [up_row (by omega), up_row (by omega)]; exact lk.1 0 (by omega) (by omega) (by omega)) w hg rfl
      · rw [c_T_period]
        refine cI_of (r1) ?_
        refine if_n (hv) ?_
        refine cI_of (c_T_answer xs d _ _) ?_
        rfl
      · rw [c_M_period]
        refine cI_of (s1) ?_
        refine if_n (by omega) ?_
        rw [up_eq]
        refine cI_of (c_M_gives xs d _ _) ?_
        rfl
end
