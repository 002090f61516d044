/-! EQUIV 0: tools -/
section
variable {ρ : Type}
theorem cI_of {o : Option (List mv × mM)} {v : Int} {h : mM} {K : Int → mM → Option ρ} {r : Option ρ} (ho : o = some ([mI v], h)) (hk : K v h = r) : cI o K = r := by subst ho; exact hk
theorem cL_of {o : Option (List mv × mM)} {v : Int} {h : mM} {K : Int → mM → Option ρ} {r : Option ρ} (ho : o = some ([mL v], h)) (hk : K v h = r) : cL o K = r := by subst ho; exact hk
theorem cV_of {o : Option (List mv × mM)} {h : mM} {K : mM → Option ρ} {r : Option ρ} (ho : o = some ([], h)) (hk : K h = r) : cV o K = r := by subst ho; exact hk
theorem cR_of {o : Option (List mv × mM)} {v : Nat} {h : mM} {K : Nat → mM → Option ρ} {r : Option ρ} (ho : o = some ([mR v], h)) (hk : K v h = r) : cR o K = r := by subst ho; exact hk
theorem if_y {c : Prop} [Decidable c] {a b r : Option ρ} (hc : c) (h : a = r) : (if c then a else b) = r := by rw [if_pos hc]; exact h
theorem if_n {c : Prop} [Decidable c] {a b r : Option ρ} (hc : ¬ c) (h : b = r) : (if c then a else b) = r := by rw [if_neg hc]; exact h
end
def b2i (P : Prop) [Decidable P] : Int := if P then 1 else 0
theorem b2i_y {P : Prop} [Decidable P] (h : P) : b2i P = 1 := if_pos h
theorem b2i_n {P : Prop} [Decidable P] (h : ¬ P) : b2i P = 0 := if_neg h
theorem b2i_0 {P : Prop} [Decidable P] : b2i P = 0 ↔ ¬ P := by
  unfold b2i
  split <;> simp_all
theorem b2i_1 {P : Prop} [Decidable P] : b2i P = 1 ↔ P := by
  unfold b2i
  split <;> simp_all
theorem b2i_01 {P : Prop} [Decidable P] : 0 ≤ b2i P ∧ b2i P ≤ 1 := by
  unfold b2i
  split <;> omega
theorem run_to {α : Type} (F : Nat → α) : ∀ {n : Nat}, (∀ i, i < n → F i = F (i + 1)) → F 0 = F n
  | 0, _ => rfl
  | n + 1, h => (run_to F (n := n) (fun i hi => h i (by omega))).trans (h n (by omega))
/-- but at these places nothing has changed -/
def Ow (L : List Nat) (h h' : mM) : Prop := ∀ a, a ∉ L → h' a = h a
theorem Ow.rf {L : List Nat} {h : mM} : Ow L h h := fun _ _ => rfl
theorem Ow.tr {L M N : List Nat} {h k g : mM} (p : Ow L h k) (q : Ow M k g) (hl : ∀ a ∈ L, a ∈ N) (hm : ∀ a ∈ M, a ∈ N) : Ow N h g := fun a ha => (q a (fun z => ha (hm a z))).trans (p a (fun z => ha (hl a z)))
theorem Ow.up {L : List Nat} {h k : mM} {b : Nat} {i v : Int} (p : Ow L h k) (hb : b ∈ L) : Ow L h (upM k b i v) := fun a ha => by
  have e : a ≠ b := fun z => ha (z ▸ hb)
  rw [← p a ha]
  funext j
  exact if_neg (fun z => e z.1)
theorem Ow.wk {L M : List Nat} {h k : mM} (p : Ow L h k) (hl : ∀ a ∈ L, a ∈ M) : Ow M h k := fun a ha => p a (fun z => ha (hl a z))
theorem Ow.at {L : List Nat} {h k : mM} (p : Ow L h k) (a : Nat) (ha : L.elem a = false) : k a = h a := p a (fun z => by rw [List.elem_iff.mpr z] at ha; cases ha)
theorem up_eq {h : mM} {a : Nat} {i v : Int} : upM h a i v a i = v := if_pos ⟨rfl, rfl⟩
theorem up_ne {h : mM} {a b : Nat} {i j v : Int} (e : b ≠ a) : upM h a i v b j = h b j := if_neg (fun z => e z.1)
theorem up_row {h : mM} {a b : Nat} {i v : Int} (e : b ≠ a) : upM h a i v b = h b := funext fun j => if_neg (fun z => e z.1)
theorem up_at {h : mM} {a : Nat} {i j v : Int} : upM h a i v a j = if j = i then v else h a j := by
  unfold upM
  by_cases e : j = i
  · rw [if_pos ⟨rfl, e⟩, if_pos e]
  · rw [if_neg (fun z => e z.2), if_neg e]
/-! sets of people as numbers -/
def sq (P : Nat → Bool) : Nat → Nat
  | 0 => 0
  | k + 1 => sq P k + (if P k then 2 ^ k else 0)
theorem sq_lt (P : Nat → Bool) : ∀ k, sq P k < 2 ^ k
  | 0 => by simp [sq]
  | k + 1 => by
    have := sq_lt P k
    rw [sq, Nat.pow_succ]
    split <;> omega
theorem sq_congr {P Q : Nat → Bool} : ∀ {k : Nat}, (∀ i, i < k → P i = Q i) → sq P k = sq Q k
  | 0, _ => rfl
  | k + 1, h => by rw [sq, sq, sq_congr (k := k) (fun i hi => h i (by omega)), h k (by omega)]
theorem or_small : ∀ p, p < 7 → ∀ x, x < 2 ^ p → fOr ((x : Nat) : Int) (fShl 1 ((p : Nat) : Int)) = ((x + 2 ^ p : Nat) : Int) := by decide +kernel
theorem shl_small : ∀ p, p < 8 → fShl 1 ((p : Nat) : Int) = ((2 ^ p : Nat) : Int) := by decide +kernel
theorem sq_or {P : Nat → Bool} {p : Nat} (hp : p < 7) : fOr ((sq P p : Nat) : Int) (fShl 1 ((p : Nat) : Int)) = ((sq P p + 2 ^ p : Nat) : Int) := or_small p hp _ (sq_lt P p)
theorem sq_y {P : Nat → Bool} {p : Nat} (h : P p = true) : sq P (p + 1) = sq P p + 2 ^ p := by rw [sq, if_pos h]
theorem sq_n {P : Nat → Bool} {p : Nat} (h : P p = false) : sq P (p + 1) = sq P p := by rw [sq, if_neg (by rw [h]; decide), Nat.add_zero]
theorem sq_small {P : Nat → Bool} {n : Nat} (h : n ≤ 7) : sq P n < 128 := Nat.lt_of_lt_of_le (sq_lt P n) (Nat.pow_le_pow_right (show 2 > 0 by omega) h)
theorem sq_bit (P : Nat → Bool) : ∀ (k i : Nat), (sq P k).testBit i = (decide (i < k) && P i)
  | 0, i => by simp [sq]
  | k + 1, i => by
    have hl := sq_lt P k
    rw [sq]
    by_cases h : P k = true
    · rw [if_pos h, Nat.add_comm]
      rcases Nat.lt_trichotomy i k with q | q | q
      · rw [Nat.testBit_two_pow_add_gt q, sq_bit P k i, decide_eq_true q, decide_eq_true (show i < k + 1 by omega)]
      · subst q
        rw [Nat.testBit_two_pow_add_eq, Nat.testBit_lt_two_pow hl, h, decide_eq_true (show i < i + 1 by omega)]
        rfl
      · have h2 : 2 ^ (k + 1) ≤ 2 ^ i := Nat.pow_le_pow_right (by omega) (by omega)
        rw [Nat.pow_succ] at h2
        rw [Nat.testBit_lt_two_pow (by omega), decide_eq_false (show ¬ i < k + 1 by omega)]
        rfl
    · rw [if_neg h, Nat.add_zero, sq_bit P k i]
      by_cases q : i = k
      · subst q
        rw [Bool.not_eq_true] at h
        rw [h, Bool.and_false, Bool.and_false]
      · have e : decide (i < k) = decide (i < k + 1) := decide_eq_decide.mpr (by omega)
        rw [e]
