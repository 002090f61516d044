/-! EQUIV 16: who warms whom, by sets -/
theorem andn_nat : ∀ x, x < 128 → ∀ y, y < 128 → fAnd ((x : Nat) : Int) (fXor ((y : Nat) : Int) (-1)) = ((x &&& (127 - y) : Nat) : Int) := by decide +kernel
theorem subn_bit : ∀ y, y < 128 → ∀ o, o < 7 → (127 - y).testBit o = !y.testBit o := by decide +kernel
theorem or_add : ∀ o, o < 7 → ∀ x, x < 128 → x.testBit o = false → x ||| 2 ^ o = x + 2 ^ o := by decide +kernel
theorem bc_full : ∀ n, n ≤ 7 → ∀ x, x < 2 ^ n → bc x = n → x = 2 ^ n - 1 := by decide +kernel
theorem bc_full2 : ∀ n, n ≤ 7 → bc (2 ^ n - 1) = n := by decide +kernel
abbrev opW (al : Nat → Nat) (k S o : Nat) : Prop := (al k).testBit o = true ∧ S.testBit o = false
/-- how many ways there are for so many from one on, when a set is taken -/
def nB (n : Nat) (al : Nat → Nat) : Nat → Nat → Nat → Int
  | 0, _, _ => 1
  | m + 1, k, S => sumN (fun o => if opW al k S o then nB n al m (k + 1) (S ||| 2 ^ o) else 0) n
/-- of those, where the one so far on warms just o -/
def thrW (n : Nat) (al : Nat → Nat) (o : Nat) : Nat → Nat → Nat → Int
  | 0, k, S => if opW al k S o then nB n al (n - 1 - k) (k + 1) (S ||| 2 ^ o) else 0
  | j + 1, k, S => sumN (fun q => if opW al k S q then thrW n al o j (k + 1) (S ||| 2 ^ q) else 0) n
/-- the first from one on by whom there is a way -/
def foW (n : Nat) (al : Nat → Nat) (k S : Nat) : Nat → Nat → Nat
  | 0, o => o
  | r + 1, o => if opW al k S o ∧ 0 < nB n al (n - 1 - k) (k + 1) (S ||| 2 ^ o) then o else foW n al k S r (o + 1)
abbrev fo (n : Nat) (al : Nat → Nat) (k S : Nat) : Nat := foW n al k S n 0
/-- whom the one so far on warms in the first way -/
def fW (n : Nat) (al : Nat → Nat) : Nat → Nat → Nat → Nat
  | 0, k, S => fo n al k S
  | j + 1, k, S => fW n al j (k + 1) (S ||| 2 ^ fo n al k S)
section
variable {n : Nat} {al : Nat → Nat}
theorem sumN_le {f : Nat → Int} {B : Int} {k : Nat} (h : ∀ i, i < k → 0 ≤ f i ∧ f i ≤ B) : 0 ≤ sumN f k ∧ sumN f k ≤ B * k := sumN_bd h
theorem sumN_mono {f : Nat → Int} (h : ∀ i, 0 ≤ f i) : ∀ {i j : Nat}, i ≤ j → sumN f i ≤ sumN f j := fun {i j} hij => by
  obtain ⟨r, rfl⟩ := Nat.exists_eq_add_of_le hij
  induction r with
  | zero => exact Int.le_refl _
  | succ r ih =>
    have := ih (by omega)
    have := h (i + r)
    rw [← Nat.add_assoc, sumN_s]
    omega
theorem p7s (m : Nat) : ((7 ^ (m + 1) : Nat) : Int) = 7 * ((7 ^ m : Nat) : Int) := by rw [Nat.pow_succ, Int.natCast_mul]; omega
theorem p7p (m : Nat) : 1 ≤ ((7 ^ m : Nat) : Int) := by
  have : 1 ≤ 7 ^ m := Nat.pow_pos (by omega)
  omega
theorem sumB {f : Nat → Int} {B : Int} (hn : n ≤ 7) {j : Nat} (hj : j ≤ n) (hB : 0 ≤ B) (h : ∀ i, i < j → 0 ≤ f i ∧ f i ≤ B) : 0 ≤ sumN f j ∧ sumN f j ≤ 7 * B := by
  have a := sumN_bd h
  have b : B * (j : Int) ≤ B * 7 := Int.mul_le_mul_of_nonneg_left (by omega) hB
  omega
theorem nB_bd (hn : n ≤ 7) : ∀ m k S, 0 ≤ nB n al m k S ∧ nB n al m k S ≤ ((7 ^ m : Nat) : Int)
  | 0, k, S => by
    rw [nB]
    simp
  | m + 1, k, S => by
    have := p7p m
    rw [nB, p7s]
    refine sumB hn (Nat.le_refl _) (by omega) (fun o ho => ?_)
    have := nB_bd hn m (k + 1) (S ||| 2 ^ o)
    split <;> omega
theorem thrW_bd (hn : n ≤ 7) {o : Nat} : ∀ j k S, j + k < n → 0 ≤ thrW n al o j k S ∧ thrW n al o j k S ≤ ((7 ^ (n - k) : Nat) : Int)
  | 0, k, S, h => by
    have e : n - k = (n - 1 - k) + 1 := by omega
    have a := nB_bd (al := al) hn (n - 1 - k) (k + 1) (S ||| 2 ^ o)
    have := p7p (n - 1 - k)
    rw [thrW, e, p7s]
    split <;> omega
  | j + 1, k, S, h => by
    have e : n - k = (n - (k + 1)) + 1 := by omega
    have := p7p (n - (k + 1))
    rw [thrW, e, p7s]
    refine sumB hn (Nat.le_refl _) (by omega) (fun q hq => ?_)
    have := thrW_bd hn (o := o) j (k + 1) (S ||| 2 ^ q) (by omega)
    split <;> omega
theorem foW_eq {k S : Nat} : ∀ (r o j : Nat), o ≤ j → j < o + r → (∀ q, o ≤ q → q < j → ¬ (opW al k S q ∧ 0 < nB n al (n - 1 - k) (k + 1) (S ||| 2 ^ q))) → (opW al k S j ∧ 0 < nB n al (n - 1 - k) (k + 1) (S ||| 2 ^ j)) → foW n al k S r o = j
  | 0, o, j, h1, h2, _, _ => by omega
  | r + 1, o, j, h1, h2, h3, h4 => by
    rw [foW]
    by_cases e : o = j
    · subst e
      rw [if_pos h4]
    · rw [if_neg (h3 o (Nat.le_refl _) (by omega))]
      exact foW_eq r (o + 1) j (by omega) (by omega) (fun q a b => h3 q (by omega) b) h4
theorem foW_ex {k S : Nat} : ∀ (r o : Nat), (∃ j, o ≤ j ∧ j < o + r ∧ opW al k S j ∧ 0 < nB n al (n - 1 - k) (k + 1) (S ||| 2 ^ j)) → o ≤ foW n al k S r o ∧ foW n al k S r o < o + r ∧ (opW al k S (foW n al k S r o) ∧ 0 < nB n al (n - 1 - k) (k + 1) (S ||| 2 ^ foW n al k S r o)) ∧ ∀ q, o ≤ q → q < foW n al k S r o → ¬ (opW al k S q ∧ 0 < nB n al (n - 1 - k) (k + 1) (S ||| 2 ^ q))
  | 0, o, ⟨j, a, b, _⟩ => by omega
  | r + 1, o, ⟨j, a, b, c, e⟩ => by
    rw [foW]
    by_cases z : opW al k S o ∧ 0 < nB n al (n - 1 - k) (k + 1) (S ||| 2 ^ o)
    · rw [if_pos z]
      exact ⟨Nat.le_refl _, by omega, z, fun q h1 h2 => by omega⟩
    · rw [if_neg z]
      have hj : o ≠ j := fun y => by subst y; exact z ⟨c, e⟩
      obtain ⟨u1, u2, u3, u4⟩ := foW_ex r (o + 1) ⟨j, by omega, by omega, c, e⟩
      refine ⟨by omega, by omega, u3, fun q h1 h2 => ?_⟩
      by_cases y : q = o
      · subst y; exact z
      · exact u4 q (by omega) h2
theorem sum_pos {f : Nat → Int} (h : ∀ i, 0 ≤ f i) : ∀ {k : Nat}, 0 < sumN f k → ∃ i, i < k ∧ 0 < f i
  | 0, z => absurd z (Int.lt_irrefl 0)
  | k + 1, z => by
    rw [sumN_s] at z
    by_cases y : 0 < f k
    · exact ⟨k, by omega, y⟩
    · have := h k
      obtain ⟨i, a, b⟩ := sum_pos h (k := k) (by omega)
      exact ⟨i, by omega, b⟩
theorem nB_first (hn : n ≤ 7) {k S m : Nat} (hk : k + (m + 1) = n) (h : 0 < nB n al (m + 1) k S) : fo n al k S < n ∧ (opW al k S (fo n al k S) ∧ 0 < nB n al m (k + 1) (S ||| 2 ^ fo n al k S)) ∧ ∀ q, q < fo n al k S → ¬ (opW al k S q ∧ 0 < nB n al m (k + 1) (S ||| 2 ^ q)) := by
  have em : n - 1 - k = m := by omega
  rw [nB] at h
  obtain ⟨o, h1, h2⟩ := sum_pos (fun o => by
    have := nB_bd (al := al) hn m (k + 1) (S ||| 2 ^ o)
    split <;> omega) h
  have := foW_ex (n := n) (al := al) (k := k) (S := S) n 0 ⟨o, by omega, by omega, by
    by_cases z : opW al k S o
    · exact z
    · rw [if_neg z] at h2; omega, by
    rw [em]
    by_cases z : opW al k S o
    · rw [if_pos z] at h2; exact h2
    · rw [if_neg z] at h2; omega⟩
  rw [em] at this
  have t2 := this.2.1
  rw [Nat.zero_add] at t2
  exact ⟨t2, this.2.2.1, fun q hq => this.2.2.2 q (by omega) hq⟩
end
section
variable {xs : List Int} {d : Nat} {c : Kc} {h : mM}
theorem lshl_small : ∀ p, p < 8 → fLshl 1 ((p : Nat) : Int) = ((2 ^ p : Nat) : Int) := by decide +kernel
abbrev okS (h : mM) (x : Int) (N : Nat) (i : Nat) : Prop := 0 ≤ h (3 + x.toNat) (i : Int) ∧ h (3 + x.toNat) (i : Int) < (N : Int)
def wyS (h : mM) (N : Nat) (x n : Int) : Int := if rwS h x n 10 2 = 0 then (if ∀ i : Nat, i < 2 * n.toNat → okS h x N i then 0 else 5) else rwS h x n 10 2
theorem pow_n (w : WfC c) : fShl 1 (c 0 0) = ((2 ^ (c 0 0).toNat : Nat) : Int) ∧ fLshl 1 (c 0 0) = ((2 ^ (c 0 0).toNat : Nat) : Int) := by
  have hn := w.1
  have a := shl_small (c 0 0).toNat (by omega)
  have b := lshl_small (c 0 0).toNat (by omega)
  rw [show (((c 0 0).toNat : Nat) : Int) = c 0 0 by omega] at a b
  exact ⟨a, b⟩
theorem t_waysStatus (k : CoT 12 c h) (w : WfC c) (x n : Int) : C xs d 48 0 [mR 0, mI x, mI n] h = some ([mI (wyS h (2 ^ (c 0 0).toNat) x n)], h) := by
  have hc := w.1
  have p7 := pow_le7 (n := (c 0 0).toNat) (by omega)
  unfold wyS
  rw [c_T_waysStatus]
  refine cI_of (t_rowsStatus (Or.inr ⟨rfl, rfl⟩)) ?_
  by_cases q : rwS h x n 10 2 = 0
  rotate_left
  · rw [if_neg q, if_neg q]
  rw [if_pos q, if_pos q, k.n, (pow_n w).1]
  generalize 2 ^ (c 0 0).toNat = N at p7 ⊢
  obtain ⟨hx, hn, h8, hl⟩ := rwS_ok q
  have key : ∀ (m i : Nat) (x6 : mv), i + m = 2 * n.toNat → (∀ j, j < i → okS h x N j) → X xs d k_T_waysStatus 19 [mR 0, mI x, mI n, mI (rwS h x n 10 2), mI (N : Int), mI (i : Int), x6, mC 0] [] h = some ([mI (if ∀ i : Nat, i < 2 * n.toNat → okS h x N i then 0 else 5)], h) := by
    intro m
    induction m with
    | zero =>
      intro i x6 hi ok
      rw [e_T_waysStatus_19]
      refine if_y (by omega) ?_
      rw [if_neg (by omega), if_pos (fun j hj => ok j (by omega))]
    | succ m ih =>
      intro i x6 hi ok
      have l60 : n * 2 ≤ 20 := by omega
      rw [e_T_waysStatus_19]
      refine if_y (by omega) ?_
      refine if_y (by omega) ?_
      refine cL_of (t_atTr hx (by omega)) ?_
      by_cases z : okS h x N i
      · refine if_n (by omega) ?_
        refine if_y (by omega) ?_
        refine if_y (by omega) ?_
        exact ih (i + 1) _ (by omega) (fun j hj => by
          by_cases e : j = i
          · subst e; exact z
          · exact ok j (by omega))
      · have no : ¬ ∀ i : Nat, i < 2 * n.toNat → okS h x N i := fun y => z (y i (by omega))
        rw [if_neg no]
        by_cases z1 : h (3 + x.toNat) (i : Int) < 0
        · rw [if_pos z1]
        · rw [if_neg z1, if_neg (by omega)]
  exact key (2 * n.toNat) 0 (mC 0) (by omega) (fun j hj => by omega)
theorem m_wrongSeen (T : TrR h) {g : mM} (e134 : g 134 = h 134) (e135 : g 135 = h 135) (k : CoM c g) (w : WfC c) (x n : Int) : C xs d 184 0 [mR 130, mI x, mI n] g = some ([mI (wyS h (2 ^ (c 0 0).toNat) x n)], g) := by
  have hc := w.1
  have p7 := pow_le7 (n := (c 0 0).toNat) (by omega)
  have p1 := Nat.two_pow_pos (c 0 0).toNat
  have sh := (pow_n w).2
  unfold wyS
  rw [c_M_wrongSeen]
  refine cI_of (m_isTray x) ?_
  by_cases q : 0 ≤ x ∧ x < 4
  rotate_left
  · refine if_y (b2i_0.mpr q) ?_
    have : rwS h x n 10 2 = 1 := if_neg (fun z => q z.1)
    rw [this]
    rfl
  refine if_n ((fun z => b2i_0.mp z q)) ?_
  refine cI_of (m_isFrom) ?_
  by_cases q2 : 0 ≤ n ∧ n ≤ 10
  rotate_left
  · refine if_y (b2i_0.mpr q2) ?_
    have : rwS h x n 10 2 = 1 := if_neg (fun z => q2 z.2)
    rw [this]
    rfl
  refine if_n ((fun z => b2i_0.mp z q2)) ?_
  have rw1 : rwS h x n 10 2 = (if h 8 x = -1 then 2 else if n * 2 ≤ h 8 x then 0 else 3) := if_pos ⟨q, q2⟩
  obtain ⟨t1, t2, t3, t4, t5⟩ := T.at' q
  refine if_y (by omega) ?_
  rw [e134, ← t2]
  by_cases q3 : h 8 x = -1
  · refine if_y (q3) ?_
    rw [rw1, if_pos q3]
    rfl
  refine if_n (q3) ?_
  refine if_y (by omega) ?_
  refine if_y (by omega) ?_
  rw [if_neg q3] at rw1
  by_cases q4 : n * 2 ≤ h 8 x
  rotate_left
  · rw [if_pos (by omega), rw1, if_neg q4]
    rfl
  rw [if_neg (by omega), rw1, if_pos q4, if_pos rfl]
  have src : ∀ j, 0 ≤ j → j < 2 * n → g 135 (60 * x + j) = h (3 + x.toNat) j := fun j h1 h2 => by rw [e135, (t5 j h1 (by omega)).1]
  generalize 2 ^ (c 0 0).toNat = N at p7 p1 sh ⊢
  have key : ∀ (m i : Nat), i + m = 2 * n.toNat → (∀ j, j < i → okS h x N j) → X xs d k_M_wrongSeen 31 [mR 130, mI x, mI n, mI (i : Int)] [] g = some ([mI (if ∀ i : Nat, i < 2 * n.toNat → okS h x N i then 0 else 5)], g) := by
    intro m
    induction m with
    | zero =>
      intro i hi ok
      rw [e_M_wrongSeen_31]
      refine if_y (by omega) ?_
      rw [if_neg (by omega), if_pos (fun j hj => ok j (by omega))]
    | succ m ih =>
      intro i hi ok
      rw [e_M_wrongSeen_31, k.n, sh]
      refine if_y (by omega) ?_
      refine if_y (by omega) ?_
      refine if_y (by omega) ?_
      refine if_y (by omega) ?_
      refine if_y (by omega) ?_
      refine if_y (by omega) ?_
      refine cI_of (m_isFrom) ?_
      rw [src _ (by omega) (by omega)]
      by_cases z1 : 0 ≤ h (3 + x.toNat) (i : Int) ∧ h (3 + x.toNat) (i : Int) ≤ (N : Int) - 1
      rotate_left
      · refine if_y (b2i_0.mpr z1) ?_
        rw [if_neg (fun y => z1 (by have := y i (by omega); omega))]
      refine if_n ((fun z => b2i_0.mp z z1)) ?_
      refine if_y (by omega) ?_
      exact ih (i + 1) (by omega) (fun j hj => by
        by_cases e : j = i
        · subst e; exact ⟨z1.1, by omega⟩
        · exact ok j (by omega))
  exact key (2 * n.toNat) 0 (by omega) (fun j hj => by omega)
theorem wyS_ok {x n : Int} {N : Nat} (e : wyS h N x n = 0) : (0 ≤ x ∧ x < 4) ∧ (0 ≤ n ∧ n ≤ 10) ∧ h 8 x ≠ -1 ∧ n * 2 ≤ h 8 x ∧ ∀ i : Nat, i < 2 * n.toNat → okS h x N i := by
  unfold wyS at e
  by_cases q : rwS h x n 10 2 = 0
  · rw [if_pos q] at e
    obtain ⟨a, b, c, d⟩ := rwS_ok q
    by_cases z : ∀ i : Nat, i < 2 * n.toNat → okS h x N i
    · exact ⟨a, b, c, d, z⟩
    · rw [if_neg z] at e; omega
  · rw [if_neg q] at e
    exact absurd e q
theorem wyS_pos (N : Nat) (x n : Int) : 0 ≤ wyS h N x n := by
  have := rwS_pos (h := h) x n 10 2
  unfold wyS
  by_cases q : rwS h x n 10 2 = 0
  · rw [if_pos q]
    by_cases z : ∀ i : Nat, i < 2 * n.toNat → okS h x N i
    · rw [if_pos z]; omega
    · rw [if_neg z]; omega
  · rw [if_neg q]; omega
/-- whom one may have warmed, by so many nights -/
def alW (n : Nat) (D W : Nat → Nat) : Nat → Nat → Nat
  | 0, p => (2 ^ n - 1) &&& (127 - 2 ^ p)
  | i + 1, p => alW n D W i p &&& (if (D i).testBit p = true then W i else 127 - W i)
theorem alW_lt {n : Nat} (hn : n ≤ 7) {D W : Nat → Nat} : ∀ i p, alW n D W i p < 128
  | 0, p => and_lt128 (by have := pow_le7 hn; have := Nat.two_pow_pos n; omega)
  | i + 1, p => and_lt128 (alW_lt hn i p)
theorem alW_bit {n : Nat} {D W : Nat → Nat} : ∀ (i : Nat), (∀ j, j < i → W j < 128) → ∀ p o, p < 7 → o < 7 → ((alW n D W i p).testBit o = true ↔ o < n ∧ o ≠ p ∧ ∀ j, j < i → ((D j).testBit p = true ↔ (W j).testBit o = true))
  | 0, _, p, o, hp, ho => by
    rw [alW, Nat.testBit_and, Bool.and_eq_true, Nat.testBit_two_pow_sub_one, decide_eq_true_iff, not_bit p hp o ho, decide_eq_true_iff]
    exact ⟨fun z => ⟨z.1, z.2, fun j hj => by omega⟩, fun z => ⟨z.1, z.2.1⟩⟩
  | i + 1, hW, p, o, hp, ho => by
    have wi := hW i (by omega)
    rw [alW, Nat.testBit_and, Bool.and_eq_true, alW_bit i (fun j hj => hW j (by omega)) p o hp ho]
    have last : ((if (D i).testBit p = true then W i else 127 - W i).testBit o = true) ↔ ((D i).testBit p = true ↔ (W i).testBit o = true) := by
      by_cases z : (D i).testBit p = true
      · rw [if_pos z]
        exact ⟨fun y => ⟨fun _ => y, fun _ => z⟩, fun y => y.mp z⟩
      · rw [if_neg z, subn_bit _ wi o ho]
        cases hb : (W i).testBit o
        · exact ⟨fun _ => ⟨fun y => absurd y z, fun y => (by cases y)⟩, fun _ => rfl⟩
        · exact ⟨fun y => (by cases y), fun y => absurd (y.mpr rfl) z⟩
    rw [last]
    constructor
    · rintro ⟨⟨a1, a2, a3⟩, a4⟩
      refine ⟨a1, a2, fun j hj => ?_⟩
      by_cases e : j = i
      · subst e; exact a4
      · exact a3 j (by omega)
    · rintro ⟨a1, a2, a3⟩
      exact ⟨⟨a1, a2, fun j hj => a3 j (by omega)⟩, a3 i (by omega)⟩
/-- the class's cells about ways -/
def Wst (n : Nat) (al : Nat → Nat) (h : mM) : Prop := h 111 3 = (n : Int) ∧ h 111 4 = ((2 ^ n - 1 : Nat) : Int) ∧ ∀ p : Nat, p < n → h 112 p = ((al p : Nat) : Int)
theorem t_wyBegin {n : Nat} (hn : n ≤ 7) (D W : Nat → Nat) : ∃ h', C xs d 345 0 [mR 111, mI (n : Int)] h = some ([], h') ∧ Wst n (alW n D W 0) h' ∧ Ow [111, 112] h h' := by
  have p7 := pow_le7 hn
  have p1 := Nat.two_pow_pos n
  rw [c_Wy_begin, show min (n : Int) 7 = (n : Int) by omega, shl_small n (by omega)]
  have ef : ((2 ^ n : Nat) : Int) - 1 = ((2 ^ n - 1 : Nat) : Int) := by omega
  rw [ef, if_pos (by omega)]
  generalize hg : upM (upM h 111 3 (n : Int)) 111 4 ((2 ^ n - 1 : Nat) : Int) = g
  have g3 : g 111 3 = (n : Int) := by rw [← hg, up_at, if_neg (by omega), up_eq]
  have g4 : g 111 4 = ((2 ^ n - 1 : Nat) : Int) := by rw [← hg, up_eq]
  have og : Ow [111, 112] h g := by rw [← hg]; exact (Ow.rf.up (by simp)).up (by simp)
  have key : ∀ (m i : Nat) (g : mM), i + m = n → g 111 3 = (n : Int) → g 111 4 = ((2 ^ n - 1 : Nat) : Int) → (∀ p : Nat, p < i → g 112 p = ((alW n D W 0 p : Nat) : Int)) → Ow [111, 112] h g → ∃ h', X xs d k_Wy_begin 15 [mR 111, mI (n : Int), mI (i : Int)] [] g = some ([], h') ∧ Wst n (alW n D W 0) h' ∧ Ow [111, 112] h h' := by
    intro m
    induction m with
    | zero =>
      intro i g hi g3 g4 gf og
      obtain rfl : i = n := by omega
      refine ⟨g, ?_, ⟨g3, g4, gf⟩, og⟩
      rw [e_Wy_begin_15, g3, if_neg (by omega)]
    | succ m ih =>
      intro i g hi g3 g4 gf og
      have v : fAnd ((2 ^ n - 1 : Nat) : Int) (fXor (fShl 1 ((i : Nat) : Int)) (-1)) = ((alW n D W 0 i : Nat) : Int) := not_small i (by omega) _ (by omega)
      obtain ⟨h', r1, r2⟩ := ih (i + 1) (upM g 112 (i : Int) ((alW n D W 0 i : Nat) : Int)) (by omega) (by rw [up_row (by omega)]; exact g3) (by rw [up_row (by omega)]; exact g4) (fun p hp => by
        rw [up_at]
        by_cases e : p = i
        · subst e; rw [if_pos rfl]
        · rw [if_neg (by omega)]; exact gf p (by omega)) (og.up (by simp))
      refine ⟨h', ?_, r2⟩
      rw [e_Wy_begin_15, g3, g4]
      refine if_y (by omega) ?_
      refine if_y (by omega) ?_
      refine if_y (by omega) ?_
      rw [v]
      exact r1
  exact key n 0 g (by omega) g3 g4 (fun p hp => by omega) og
theorem t_wySeen {n : Nat} (hn : n ≤ 7) {D W : Nat → Nat} {i : Nat} (hD : D i < 128) (hW : W i < 128) (s : Wst n (alW n D W i) h) : ∃ h', C xs d 346 0 [mR 111, mI ((D i : Nat) : Int), mI ((W i : Nat) : Int)] h = some ([], h') ∧ Wst n (alW n D W (i + 1)) h' ∧ Ow [111, 112] h h' := by
  obtain ⟨s1, s2, s3⟩ := s
  rw [c_Wy_seen]
  have key : ∀ (m j : Nat) (g : mM), j + m = n → g 111 = h 111 → (∀ p : Nat, p < n → g 112 p = (((if p < j then alW n D W (i + 1) p else alW n D W i p) : Nat) : Int)) → Ow [111, 112] h g → ∃ h', X xs d k_Wy_seen 2 [mR 111, mI ((D i : Nat) : Int), mI ((W i : Nat) : Int), mI (j : Int)] [] g = some ([], h') ∧ Wst n (alW n D W (i + 1)) h' ∧ Ow [111, 112] h h' := by
    intro m
    induction m with
    | zero =>
      intro j g hj e gf og
      obtain rfl : j = n := by omega
      refine ⟨g, ?_, ⟨by rw [e]; exact s1, by rw [e]; exact s2, fun p hp => by rw [gf p hp, if_pos hp]⟩, og⟩
      rw [e_Wy_seen_2, e, s1, if_neg (by omega)]
    | succ m ih =>
      intro j g hj e gf og
      have lt := alW_lt hn (D := D) (W := W) i j
      have nx := ih (j + 1) (upM g 112 (j : Int) ((alW n D W (i + 1) j : Nat) : Int)) (by omega) (by rw [up_row (by omega)]; exact e) (fun p hp => by
        rw [up_at]
        by_cases z : p = j
        · subst z; rw [if_pos rfl, if_pos (by omega)]
        · rw [if_neg (by omega), gf p hp]
          by_cases y : p < j
          · rw [if_pos y, if_pos (by omega)]
          · rw [if_neg y, if_neg (by omega)]) (og.up (by simp))
      obtain ⟨h', r1, r2⟩ := nx
      refine ⟨h', ?_, r2⟩
      rw [e_Wy_seen_2, e, s1]
      refine if_y (by omega) ?_
      refine if_y (by omega) ?_
      have gj : g 112 (j : Int) = ((alW n D W i j : Nat) : Int) := by rw [gf j (by omega), if_neg (by omega)]
      rw [gj]
      by_cases z : (D i).testBit j = true
      · rw [if_neg (by rw [and_b hD (by omega), z]; decide), e_Wy_seen_22]
        refine if_y (by omega) ?_
        refine if_y (by omega) ?_
        rw [and_small _ lt _ hW]
        rw [alW, if_pos z] at r1
        exact r1
      · have z' : (D i).testBit j = false := by rwa [Bool.not_eq_true] at z
        rw [if_pos ((and_b hD (by omega)).mpr z'), e_Wy_seen_22]
        refine if_y (by omega) ?_
        refine if_y (by omega) ?_
        rw [andn_nat _ lt _ hW]
        rw [alW, if_neg z] at r1
        exact r1
  exact key n 0 h (by omega) rfl (fun p hp => by rw [if_neg (by omega)]; exact s3 p hp) Ow.rf
theorem t_isOpen {n : Nat} (hn : n ≤ 7) {al : Nat → Nat} (hal : ∀ p, al p < 128) (s : Wst n al h) {S p o : Nat} (hS : S < 128) (hp : p < n) (ho : o < 7) : C xs d 350 0 [mR 111, mI (S : Int), mI (p : Int), mI (o : Int)] h = some ([mI (b2i (opW al p S o))], h) := by
  rw [c_Wy_isOpen]
  refine if_y (by omega) ?_
  rw [s.2.2 p hp, andn_nat _ (hal p) _ hS]
  have bit : ((al p) &&& (127 - S)).testBit o = true ↔ opW al p S o := by
    rw [Nat.testBit_and, Bool.and_eq_true, subn_bit S hS o ho]
    unfold opW
    cases S.testBit o <;> simp
  by_cases z : opW al p S o
  · rw [if_neg (by rw [and_b (and_lt128 (hal p)) ho, bit.mpr z]; decide), b2i_y z]
  · have : ((al p) &&& (127 - S)).testBit o = false := by rw [← Bool.not_eq_true]; exact fun y => z (bit.mp y)
    rw [if_pos ((and_b (and_lt128 (hal p)) ho).mpr this), b2i_n z]
end
