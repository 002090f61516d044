/-! EQUIV 16: who warms whom, by sets -/
theorem andn_nat : ∀ x, x < 128 → ∀ y, y < 128 → fAnd ((x : Nat) : Int) (fXor ((y : Nat) : Int) (-1)) = ((x &&& (127 - y) : Nat) : Int) := by decide +kernel
theorem subn_bit : ∀ y, y < 128 → ∀ o, o < 7 → (127 - y).testBit o = !y.testBit o := by decide +kernel
theorem or_add : ∀ o, o < 7 → ∀ x, x < 128 → x.testBit o = false → x ||| 2 ^ o = x + 2 ^ o := by decide +kernel
theorem bc_full : ∀ n, n ≤ 7 → ∀ x, x < 2 ^ n → bc x = n → x = 2 ^ n - 1 := by decide +kernel
theorem bc_full2 : ∀ n, n ≤ 7 → bc (2 ^ n - 1) = n := by decide +kernel
abbrev opW (al : Nat → Nat) (k S o : Nat) : Prop := (al k).testBit o = true ∧ S.testBit o = false
/-- how many ways there are for so many from one on, when a set is taken -/
def nB (n : Nat) (al : Nat → Nat) : Nat → Nat → Nat → Int
  | 0, _, _ => 1
  | m + 1, k, S => sumN (fun o => if opW al k S o then nB n al m (k + 1) (S ||| 2 ^ o) else 0) n
/-- of those, where the one so far on warms just o -/
def thrW (n : Nat) (al : Nat → Nat) (o : Nat) : Nat → Nat → Nat → Int
  | 0, k, S => if opW al k S o then nB n al (n - 1 - k) (k + 1) (S ||| 2 ^ o) else 0
  | j + 1, k, S => sumN (fun q => if opW al k S q then thrW n al o j (k + 1) (S ||| 2 ^ q) else 0) n
/-- the first from one on by whom there is a way -/
def foW (n : Nat) (al : Nat → Nat) (k S : Nat) : Nat → Nat → Nat
  | 0, o => o
  | r + 1, o => if opW al k S o ∧ 0 < nB n al (n - 1 - k) (k + 1) (S ||| 2 ^ o) then o else foW n al k S r (o + 1)
abbrev fo (n : Nat) (al : Nat → Nat) (k S : Nat) : Nat := foW n al k S n 0
/-- whom the one so far on warms in the first way -/
def fW (n : Nat) (al : Nat → Nat) : Nat → Nat → Nat → Nat
  | 0, k, S => fo n al k S
  | j + 1, k, S => fW n al j (k + 1) (S ||| 2 ^ fo n al k S)
section
variable {n : Nat} {al : Nat → Nat}
theorem sumN_le {f : Nat → Int} {B : Int} {k : Nat} (h : ∀ i, i < k → 0 ≤ f i ∧ f i ≤ B) : 0 ≤ sumN f k ∧ sumN f k ≤ B * k := sumN_bd h
theorem sumN_mono {f : Nat → Int} (h : ∀ i, 0 ≤ f i) : ∀ {i j : Nat}, i ≤ j → sumN f i ≤ sumN f j := fun {i j} hij => by
  obtain ⟨r, rfl⟩ := Nat.exists_eq_add_of_le hij
  induction r with
  | zero => exact Int.le_refl _
  | succ r ih =>
    have := ih (by omega)
    have := h (i + r)
    rw [← Nat.add_assoc, sumN_s]
    omega
theorem p7s (m : Nat) : ((7 ^ (m + 1) : Nat) : Int) = 7 * ((7 ^ m : Nat) : Int) := by rw [Nat.pow_succ, Int.natCast_mul]; omega
theorem p7p (m : Nat) : 1 ≤ ((7 ^ m : Nat) : Int) := by
  have : 1 ≤ 7 ^ m := Nat.pow_pos (by omega)
  omega
theorem sumB {f : Nat → Int} {B : Int} (hn : n ≤ 7) {j : Nat} (hj : j ≤ n) (hB : 0 ≤ B) (h : ∀ i, i < j → 0 ≤ f i ∧ f i ≤ B) : 0 ≤ sumN f j ∧ sumN f j ≤ 7 * B := by
  have a := sumN_bd h
  have b : B * (j : Int) ≤ B * 7 := Int.mul_le_mul_of_nonneg_left (by omega) hB
  omega
theorem nB_bd (hn : n ≤ 7) : ∀ m k S, 0 ≤ nB n al m k S ∧ nB n al m k S ≤ ((7 ^ m : Nat) : Int)
  | 0, k, S => by
    rw [nB]
    simp
  | m + 1, k, S => by
    have := p7p m
    rw [nB, p7s]
    refine sumB hn (Nat.le_refl _) (by omega) (fun o ho => ?_)
    have := nB_bd hn m (k + 1) (S ||| 2 ^ o)
    split <;> omega
theorem thrW_bd (hn : n ≤ 7) {o : Nat} : ∀ j k S, j + k < n → 0 ≤ thrW n al o j k S ∧ thrW n al o j k S ≤ ((7 ^ (n - k) : Nat) : Int)
  | 0, k, S, h => by
    have e : n - k = (n - 1 - k) + 1 := by omega
    have a := nB_bd (al := al) hn (n - 1 - k) (k + 1) (S ||| 2 ^ o)
    have := p7p (n - 1 - k)
    rw [thrW, e, p7s]
    split <;> omega
  | j + 1, k, S, h => by
    have e : n - k = (n - (k + 1)) + 1 := by omega
    have := p7p (n - (k + 1))
    rw [thrW, e, p7s]
    refine sumB hn (Nat.le_refl _) (by omega) (fun q hq => ?_)
    have := thrW_bd hn (o := o) j (k + 1) (S ||| 2 ^ q) (by omega)
    split <;> omega
theorem foW_eq {k S : Nat} : ∀ (r o j : Nat), o ≤ j → j < o + r → (∀ q, o ≤ q → q < j → ¬ (opW al k S q ∧ 0 < nB n al (n - 1 - k) (k + 1) (S ||| 2 ^ q))) → (opW al k S j ∧ 0 < nB n al (n - 1 - k) (k + 1) (S ||| 2 ^ j)) → foW n al k S r o = j
  | 0, o, j, h1, h2, _, _ => by omega
  | r + 1, o, j, h1, h2, h3, h4 => by
    rw [foW]
    by_cases e : o = j
    · subst e
      rw [if_pos h4]
    · rw [if_neg (h3 o (Nat.le_refl _) (by omega))]
      exact foW_eq r (o + 1) j (by omega) (by omega) (fun q a b => h3 q (by omega) b) h4
theorem foW_ex {k S : Nat} : ∀ (r o : Nat), (∃ j, o ≤ j ∧ j < o + r ∧ opW al k S j ∧ 0 < nB n al (n - 1 - k) (k + 1) (S ||| 2 ^ j)) → o ≤ foW n al k S r o ∧ foW n al k S r o < o + r ∧ (opW al k S (foW n al k S r o) ∧ 0 < nB n al (n - 1 - k) (k + 1) (S ||| 2 ^ foW n al k S r o)) ∧ ∀ q, o ≤ q → q < foW n al k S r o → ¬ (opW al k S q ∧ 0 < nB n al (n - 1 - k) (k + 1) (S ||| 2 ^ q))
  | 0, o, ⟨j, a, b, _⟩ => by omega
  | r + 1, o, ⟨j, a, b, c, e⟩ => by
    rw [foW]
    by_cases z : opW al k S o ∧ 0 < nB n al (n - 1 - k) (k + 1) (S ||| 2 ^ o)
    · rw [if_pos z]
      exact ⟨Nat.le_refl _, by omega, z, fun q h1 h2 => by omega⟩
    · rw [if_neg z]
      have hj : o ≠ j := fun y => by subst y; exact z ⟨c, e⟩
      obtain ⟨u1, u2, u3, u4⟩ := foW_ex r (o + 1) ⟨j, by omega, by omega, c, e⟩
      refine ⟨by omega, by omega, u3, fun q h1 h2 => ?_⟩
      by_cases y : q = o
      · subst y; exact z
      · exact u4 q (by omega) h2
theorem sum_pos {f : Nat → Int} (h : ∀ i, 0 ≤ f i) : ∀ {k : Nat}, 0 < sumN f k → ∃ i, i < k ∧ 0 < f i
  | 0, z => absurd z (Int.lt_irrefl 0)
  | k + 1, z => by
    rw [sumN_s] at z
    by_cases y : 0 < f k
    · exact ⟨k, by omega, y⟩
    · have := h k
      obtain ⟨i, a, b⟩ := sum_pos h (k := k) (by omega)
      exact ⟨i, by omega, b⟩
theorem nB_first (hn : n ≤ 7) {k S m : Nat} (hk : k + (m + 1) = n) (h : 0 < nB n al (m + 1) k S) : fo n al k S < n ∧ (opW al k S (fo n al k S) ∧ 0 < nB n al m (k + 1) (S ||| 2 ^ fo n al k S)) ∧ ∀ q, q < fo n al k S → ¬ (opW al k S q ∧ 0 < nB n al m (k + 1) (S ||| 2 ^ q)) := by
  have em : n - 1 - k = m := by omega
  rw [nB] at h
  obtain ⟨o, h1, h2⟩ := sum_pos (fun o => by
    have := nB_bd (al := al) hn m (k + 1) (S ||| 2 ^ o)
    split <;> omega) h
  have := foW_ex (n := n) (al := al) (k := k) (S := S) n 0 ⟨o, by omega, by omega, by
    by_cases z : opW al k S o
    · exact z
    · rw [if_neg z] at h2; omega, by
    rw [em]
    by_cases z : opW al k S o
    · rw [if_pos z] at h2; exact h2
    · rw [if_neg z] at h2; omega⟩
  rw [em] at this
  have t2 := this.2.1
  rw [Nat.zero_add] at t2
  exact ⟨t2, this.2.2.1, fun q hq => this.2.2.2 q (by omega) hq⟩
end
