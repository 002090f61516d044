/-! EQUIV 10: bits, chains and rings -/
def bc (x : Nat) : Nat := (x.testBit 0).toNat + (x.testBit 1).toNat + (x.testBit 2).toNat + (x.testBit 3).toNat + (x.testBit 4).toNat + (x.testBit 5).toNat + (x.testBit 6).toNat
def bcA (x : Int) : Int := x - (fAnd (fUshr x 1) 1431655765)
def bcB (x : Int) : Int := (fAnd (bcA x) 858993459) + (fAnd (fUshr (bcA x) 2) 858993459)
def bcC (x : Int) : Int := bcB x + fUshr (bcB x) 4
def bcD (x : Int) : Int := fAnd (bcC x) 252645135 + fUshr (fAnd (bcC x) 252645135) 8
def bcE (x : Int) : Int := bcD x + fUshr (bcD x) 16
theorem bc_all : ∀ x, x < 128 → inI (bcA ((x : Nat) : Int)) ∧ inI (bcB ((x : Nat) : Int)) ∧ inI (bcC ((x : Nat) : Int)) ∧ inI (bcD ((x : Nat) : Int)) ∧ inI (bcE ((x : Nat) : Int)) ∧ fAnd (bcE ((x : Nat) : Int)) 63 = ((bc x : Nat) : Int) := by decide +kernel
theorem t_bitCount {xs : List Int} {d : Nat} {h : mM} {x : Nat} (hx : x < 128) : C xs d 0 0 [mI (x : Int)] h = some ([mI ((bc x : Nat) : Int)], h) := by
  obtain ⟨a1, a2, a3, a4, a5, a6⟩ := bc_all x hx
  rw [c_J_bitCount]
  refine if_y a1 (if_y a2 (if_y a3 (if_y a4 (if_y a5 ?_))))
  rw [← a6]
  rfl
theorem bit_drop : ∀ k, k < 128 → k ≠ 0 → fAnd ((k : Nat) : Int) (((k : Nat) : Int) - 1) = ((k &&& (k - 1) : Nat) : Int) ∧ (k &&& (k - 1)) < k ∧ bc k = bc (k &&& (k - 1)) + 1 := by decide +kernel
theorem bc_7 : ∀ k, k < 128 → bc k ≤ 7 := by decide +kernel
theorem m_bits {xs : List Int} {d : Nat} {h : mM} {x : Nat} (hx : x < 128) : C xs d 128 0 [mI (x : Int)] h = some ([mI ((bc x : Nat) : Int)], h) := by
  rw [c_M_bits]
  have key : ∀ (m k n : Nat), k ≤ m → k < 128 → n + bc k = bc x → X xs d k_M_bits 4 [mI (x : Int), mI (n : Int), mI (k : Int)] [] h = some ([mI ((bc x : Nat) : Int)], h) := by
    intro m
    induction m with
    | zero =>
      intro k n h1 h2 h3
      obtain rfl : k = 0 := by omega
      rw [e_M_bits_4, if_pos (by omega), show n = bc x from h3]
    | succ m ih =>
      intro k n h1 h2 h3
      by_cases q : k = 0
      · subst q
        rw [e_M_bits_4, if_pos (by omega), show n = bc x from h3]
      · obtain ⟨b1, b2, b3⟩ := bit_drop k h2 q
        have := bc_7 x hx
        rw [e_M_bits_4]
        refine if_n (by omega) ?_
        refine if_y (by omega) ?_
        refine if_y (by omega) ?_
        rw [b1]
        exact ih _ (n + 1) (by omega) (by omega) (by omega)
  exact key x x 0 (by omega) hx (by omega)
theorem or_nat : ∀ x, x < 128 → ∀ y, y < 128 → fOr ((x : Nat) : Int) ((y : Nat) : Int) = ((x ||| y : Nat) : Int) := by decide +kernel
theorem or_lt {x y n : Nat} (h1 : x < 2 ^ n) (h2 : y < 2 ^ n) : x ||| y < 2 ^ n := Nat.or_lt_two_pow h1 h2
theorem and_bit : ∀ p, p < 7 → ∀ x, x < 128 → decide (fAnd ((x : Nat) : Int) (fShl 1 ((p : Nat) : Int)) = 0) = !x.testBit p := by decide +kernel
theorem bc_or : ∀ p, p < 7 → ∀ x, x < 128 → x.testBit p = false → bc (x ||| 2 ^ p) = bc x + 1 := by decide +kernel
theorem bc_le : ∀ n, n ≤ 7 → ∀ x, x < 2 ^ n → bc x ≤ n := by decide +kernel
/-! where one comes to along the chain -/
def chI (c : Kc) (p : Int) : Nat → Int
  | 0 => p
  | k + 1 => if chI c p k = -1 then -1 else c 7 (chI c p k)
def vis (c : Kc) (p : Int) : Nat → Nat
  | 0 => 0
  | k + 1 => vis c p k ||| 2 ^ (chI c p k).toNat
/-- the chain is at its end -/
def stp (c : Kc) (p : Int) (k : Nat) : Prop := chI c p k = -1 ∨ (vis c p k).testBit (chI c p k).toNat = true
section
variable {c : Kc} {p : Int}
theorem chI_rng (w : WfC c) (hp : 0 ≤ p ∧ p < c 0 0) : ∀ k, chI c p k = -1 ∨ 0 ≤ chI c p k ∧ chI c p k < c 0 0
  | 0 => Or.inr hp
  | k + 1 => by
    have := chI_rng w hp k
    rw [chI]
    by_cases q : chI c p k = -1
    · rw [if_pos q]; exact Or.inl rfl
    · rw [if_neg q]
      exact (w.2.2.2.2.2.2.2.2 _ (by omega) (by omega)).2.2.2.2
theorem vis_lt (w : WfC c) (hp : 0 ≤ p ∧ p < c 0 0) : ∀ k, (∀ j, j < k → chI c p j ≠ -1) → vis c p k < 2 ^ (c 0 0).toNat
  | 0, _ => Nat.two_pow_pos _
  | k + 1, h => by
    have := chI_rng w hp k
    have := h k (by omega)
    exact or_lt (vis_lt w hp k (fun j hj => h j (by omega))) (Nat.pow_lt_pow_right (by omega) (by omega))
theorem vis_bit : ∀ k q, (vis c p k).testBit q = true ↔ ∃ j, j < k ∧ (chI c p j).toNat = q
  | 0, q => by simp [vis]
  | k + 1, q => by
    rw [vis, Nat.testBit_or, Bool.or_eq_true, vis_bit k q, Nat.testBit_two_pow]
    constructor
    · rintro (⟨j, h1, h2⟩ | h)
      · exact ⟨j, by omega, h2⟩
      · exact ⟨k, by omega, of_decide_eq_true h⟩
    · rintro ⟨j, h1, h2⟩
      by_cases e : j = k
      · subst e; exact Or.inr (decide_eq_true h2)
      · exact Or.inl ⟨j, by omega, h2⟩
/-- not at its end before -/
def GoC (c : Kc) (p : Int) (k : Nat) : Prop := ∀ j, j < k → ¬ stp c p j
theorem GoC.ne {k : Nat} (g : GoC c p k) : ∀ j, j < k → chI c p j ≠ -1 := fun j hj e => g j hj (Or.inl e)
theorem GoC.bc (w : WfC c) (hp : 0 ≤ p ∧ p < c 0 0) : ∀ {k : Nat}, GoC c p k → bc (vis c p k) = k
  | 0, _ => by rw [vis]; decide
  | k + 1, g => by
    have g' : GoC c p k := fun j hj => g j (by omega)
    have ih := GoC.bc w hp g'
    have hs := g k (by omega)
    have hr := chI_rng w hp k
    have hl := vis_lt w hp k g'.ne
    have hn := w.1
    have h2 : 2 ^ (c 0 0).toNat ≤ 2 ^ 7 := Nat.pow_le_pow_right (by omega) (by omega)
    have hne := g.ne k (by omega)
    rw [vis, bc_or _ (by omega) _ (by omega) (by rw [← Bool.not_eq_true]; exact fun z => hs (Or.inr z)), ih]
theorem GoC.le (w : WfC c) (hp : 0 ≤ p ∧ p < c 0 0) {k : Nat} (g : GoC c p k) : (k : Int) ≤ c 0 0 := by
  have hn := w.1
  have := bc_le (c 0 0).toNat (by omega) _ (vis_lt w hp k g.ne)
  rw [g.bc w hp] at this
  omega
/-- how long the chain is -/
theorem chain_end (w : WfC c) (hp : 0 ≤ p ∧ p < c 0 0) : ∃ L : Nat, (L : Int) ≤ c 0 0 ∧ 1 ≤ L ∧ GoC c p L ∧ stp c p L := by
  have hn := w.1
  have key : ∀ m, GoC c p m ∨ ∃ L, L < m ∧ GoC c p L ∧ stp c p L := by
    intro m
    induction m with
    | zero => exact Or.inl (fun j hj => by omega)
    | succ m ih =>
      rcases ih with g | ⟨L, h1, h2⟩
      · by_cases s : stp c p m
        · exact Or.inr ⟨m, by omega, g, s⟩
        · exact Or.inl (fun j hj => by
            by_cases e : j = m
            · subst e; exact s
            · exact g j (by omega))
      · exact Or.inr ⟨L, by omega, h2⟩
  rcases key ((c 0 0).toNat + 1) with g | ⟨L, h1, h2, h3⟩
  · have := g.le w hp
    omega
  · refine ⟨L, h2.le w hp, ?_, h2, h3⟩
    rcases Nat.eq_zero_or_pos L with e | e
    · subst e
      rcases h3 with h3 | h3
      · have : chI c p 0 = p := rfl
        omega
      · simp [vis] at h3
    · exact e
theorem chI_none {k : Nat} (h : chI c p k = -1) : ∀ m, k ≤ m → chI c p m = -1 := fun m hm => by
  obtain ⟨r, rfl⟩ := Nat.exists_eq_add_of_le hm
  induction r with
  | zero => exact h
  | succ r ih => rw [← Nat.add_assoc, chI, if_pos (ih (by omega))]
theorem chI_add {q : Int} {j : Nat} (h : chI c p j = q) : ∀ m, chI c p (j + m) = chI c q m
  | 0 => h
  | m + 1 => by rw [← Nat.add_assoc, chI, chI, chI_add h m]
/-- who comes back comes back where the chain is at its end -/
theorem comes_back (w : WfC c) (hp : 0 ≤ p ∧ p < c 0 0) {L m : Nat} (g : GoC c p L) (s : stp c p L) (hm : 1 ≤ m) (hb : chI c p m = p) : chI c p L = p := by
  have early : ∀ t, 1 ≤ t → t < L → chI c p t ≠ p := fun t h1 h2 e => g t h2 (Or.inr ((vis_bit t _).mpr ⟨0, by omega, by rw [e]; rfl⟩))
  rcases s with s | s
  · by_cases q : L ≤ m
    · have := chI_none s m q
      omega
    · exact absurd hb (early m hm (by omega))
  · obtain ⟨j, h1, h2⟩ := (vis_bit L _).mp s
    by_cases q1 : chI c p L = -1
    · by_cases q : L ≤ m
      · have := chI_none q1 m q
        omega
      · exact absurd hb (early m hm (by omega))
    have r1 := chI_rng w hp j
    have r2 := chI_rng w hp L
    have n1 := g.ne j h1
    have e1 : chI c p j = chI c p L := by omega
    by_cases q : j = 0
    · subst q
      exact e1.symm
    · exfalso
      have loop : ∀ r, ∃ t, j ≤ t ∧ t < L ∧ chI c p (j + r) = chI c p t := by
        intro r
        induction r with
        | zero => exact ⟨j, by omega, h1, rfl⟩
        | succ r ih =>
          obtain ⟨t, t1, t2, t3⟩ := ih
          have : chI c p (j + (r + 1)) = chI c p (t + 1) := by rw [← Nat.add_assoc, chI, chI, t3]
          by_cases e : t + 1 = L
          · exact ⟨j, by omega, h1, by rw [this, e, e1]⟩
          · exact ⟨t + 1, by omega, by omega, this⟩
      by_cases q2 : m < L
      · exact early m hm q2 hb
      · obtain ⟨t, t1, t2, t3⟩ := loop (m - j)
        rw [show j + (m - j) = m by omega] at t3
        exact early t (by omega) t2 (by rw [← t3, hb])
end
section
variable {xs : List Int} {d : Nat} {c : Kc} {h : mM} {p : Int}
theorem pow_le7 {n : Nat} (h : n ≤ 7) : 2 ^ n ≤ 128 := Nat.pow_le_pow_right (show 2 > 0 by omega) h
theorem vis_128 (w : WfC c) (hp : 0 ≤ p ∧ p < c 0 0) {k : Nat} (g : GoC c p k) : vis c p k < 128 := by
  have hn := w.1
  exact Nat.lt_of_lt_of_le (vis_lt w hp k g.ne) (pow_le7 (by omega))
theorem and_b {x q : Nat} (hx : x < 128) (hq : q < 7) : fAnd ((x : Nat) : Int) (fShl 1 ((q : Nat) : Int)) = 0 ↔ x.testBit q = false := by
  have := and_bit q hq x hx
  cases hb : x.testBit q
  · rw [hb] at this
    exact ⟨fun _ => rfl, fun _ => of_decide_eq_true this⟩
  · rw [hb] at this
    exact ⟨fun z => absurd z (of_decide_eq_false this), fun z => by cases z⟩
theorem vis_next (w : WfC c) (hp : 0 ≤ p ∧ p < c 0 0) {k : Nat} (g : GoC c p k) (hr : 0 ≤ chI c p k ∧ chI c p k < c 0 0) : fOr ((vis c p k : Nat) : Int) (fShl 1 (chI c p k)) = ((vis c p (k + 1) : Nat) : Int) := by
  have hn := w.1
  have e : chI c p k = (((chI c p k).toNat : Nat) : Int) := by omega
  rw [e, shl_small _ (by omega), or_nat _ (vis_128 w hp g) _ (Nat.lt_of_lt_of_le (Nat.pow_lt_pow_right (by omega) (show (chI c p k).toNat < 7 by omega)) (by omega))]
  rfl
theorem t_chainLength (k : CoT 12 c h) (w : WfC c) (hp : 0 ≤ p ∧ p < c 0 0) {L : Nat} (g : GoC c p L) (s : stp c p L) : C xs d 248 0 [mR 12, mI p] h = some ([mI (L : Int)], h) := by
  have hn := w.1
  have hL := g.le w hp
  rw [c_Co_chainLength]
  have fin := t_bitCount (xs := xs) (d := d) (h := h) (vis_128 w hp g)
  rw [g.bc w hp] at fin
  have key : ∀ (m i : Nat), i + m = L → X xs d k_Co_chainLength 6 [mR 12, mI p, mI ((vis c p i : Nat) : Int), mI (chI c p i), mI (i : Int)] [] h = some ([mI (L : Int)], h) := by
    intro m
    induction m with
    | zero =>
      intro i hi
      obtain rfl : i = L := by omega
      rw [e_Co_chainLength_6, k.n]
      by_cases q : (i : Int) < c 0 0
      · rw [if_pos q]
        refine cI_of (t_has12 k _) ?_
        rcases chI_rng w hp i with r | r
        · refine if_y (b2i_0.mpr (by omega)) ?_
          refine cI_of (fin) ?_
          rfl
        · refine if_n ((fun z => b2i_0.mp z r)) ?_
          have e : chI c p i = (((chI c p i).toNat : Nat) : Int) := by omega
          have s' : (vis c p i).testBit (chI c p i).toNat = true := by
            rcases s with s | s
            · omega
            · exact s
          rw [if_neg (by rw [e, and_b (vis_128 w hp g) (by omega), s']; decide)]
          refine cI_of (fin) ?_
          rfl
      · rw [if_neg q]
        refine cI_of (fin) ?_
        rfl
    | succ m ih =>
      intro i hi
      have gi : GoC c p i := fun j hj => g j (by omega)
      have ns := g i (by omega)
      have hr : 0 ≤ chI c p i ∧ chI c p i < c 0 0 := by
        rcases chI_rng w hp i with r | r
        · exact absurd (Or.inl r) ns
        · exact r
      have e : chI c p i = (((chI c p i).toNat : Nat) : Int) := by omega
      have hb : (vis c p i).testBit (chI c p i).toNat = false := by rw [← Bool.not_eq_true]; exact fun z => ns (Or.inr z)
      have st : X xs d k_Co_chainLength 6 [mR 12, mI p, mI ((vis c p i : Nat) : Int), mI (chI c p i), mI (i : Int)] [] h = X xs d k_Co_chainLength 6 [mR 12, mI p, mI ((vis c p (i + 1) : Nat) : Int), mI (chI c p (i + 1)), mI ((i + 1 : Nat) : Int)] [] h := by
        rw [e_Co_chainLength_6, k.n]
        refine if_y (by omega) ?_
        refine cI_of (t_has12 k _) ?_
        refine if_n ((fun z => b2i_0.mp z hr)) ?_
        rw [if_pos (by rw [e, and_b (vis_128 w hp gi) (by omega)]; exact hb)]
        refine if_y (by omega) ?_
        refine if_y (by omega) ?_
        rw [vis_next w hp gi hr, show h 18 (chI c p i) = c 7 (chI c p i) from k.q _ hr.1 hr.2, chI, if_neg (by omega)]
        rfl
      rw [st]
      exact ih (i + 1) (by omega)
  exact key L 0 (by omega)
theorem t_alongChain (k : CoT 12 c h) (w : WfC c) (hp : 0 ≤ p ∧ p < c 0 0) {L n : Nat} (g : GoC c p L) (hL : n < L) : C xs d 249 0 [mR 12, mI p, mI (n : Int)] h = some ([mI (chI c p n)], h) := by
  have hn := w.1
  have hL2 := g.le w hp
  have rg : ∀ i, i < L → 0 ≤ chI c p i ∧ chI c p i < c 0 0 := fun i hi => by
    rcases chI_rng w hp i with r | r
    · exact absurd r (g.ne i hi)
    · exact r
  rw [c_Co_alongChain]
  have st : ∀ i : Nat, i < n → X xs d k_Co_alongChain 4 [mR 12, mI p, mI (n : Int), mI (chI c p i), mI (i : Int)] [] h = X xs d k_Co_alongChain 4 [mR 12, mI p, mI (n : Int), mI (chI c p (i + 1)), mI ((i + 1 : Nat) : Int)] [] h := by
    intro i hi
    have hr := rg i (by omega)
    have hr2 := rg (i + 1) (by omega)
    have e2 : chI c p (i + 1) = c 7 (chI c p i) := by rw [chI, if_neg (by omega)]
    rw [e2] at hr2
    rw [e_Co_alongChain_4, k.n, show h 18 (chI c p i) = c 7 (chI c p i) from k.q _ hr.1 hr.2]
    refine if_y (by omega) ?_
    refine if_y (by omega) ?_
    refine if_y (by omega) ?_
    refine cI_of (t_has12 k _) ?_
    refine if_n ((fun z => b2i_0.mp z hr2)) ?_
    refine if_y (by omega) ?_
    refine if_y (by omega) ?_
    rw [show h 18 (chI c p i) = c 7 (chI c p i) from k.q _ hr.1 hr.2, e2]
    rfl
  refine (run_to (fun i : Nat => X xs d k_Co_alongChain 4 [mR 12, mI p, mI (n : Int), mI (chI c p i), mI (i : Int)] [] h) st).trans ?_
  rw [e_Co_alongChain_4, if_neg (by omega)]
/-- what laying a chain changes -/
def LcM (h h' : mM) : Prop := (∀ a, a ≠ 130 → a ≠ 141 → h' a = h a) ∧ ∀ j, j ≠ 29 → h' 130 j = h 130 j
theorem LcM.rf : LcM h h := ⟨fun _ _ _ => rfl, fun _ _ => rfl⟩
theorem LcM.tr {k g : mM} (a : LcM h k) (b : LcM k g) : LcM h g := ⟨fun x h1 h2 => (b.1 x h1 h2).trans (a.1 x h1 h2), fun j hj => (b.2 j hj).trans (a.2 j hj)⟩
theorem LcM.keep {h' : mM} (a : LcM h h') : Keep h h' := ⟨fun x z => a.1 x (fun e => by subst e; exact absurd z (by decide)) (fun e => by subst e; exact absurd z (by decide)), fun j _ => by rw [a.1 0 (by omega) (by omega)], fun j hj => a.2 j (by omega), fun j _ => by rw [a.1 131 (by omega) (by omega)]⟩
theorem m_isInN {x q : Nat} (hx : x < 128) (hq : q < 7) : C xs d 112 0 [mR 130, mI (x : Int), mI (q : Int)] h = some ([mI (b2i (x.testBit q = true))], h) := by
  rw [c_M_isIn]
  have := isin_small q hq x hx
  by_cases e : x.testBit q = true
  · rw [e] at this
    rw [if_pos (of_decide_eq_true this), b2i_y e]
  · rw [Bool.not_eq_true] at e
    rw [e] at this
    rw [if_neg (of_decide_eq_false this), b2i_n (by rw [e]; decide)]
theorem m_laysChain (k : CoM c h) (w : WfC c) (hp : 0 ≤ p ∧ p < c 0 0) {L : Nat} (g : GoC c p L) (s : stp c p L) : ∃ h', C xs d 171 0 [mR 130, mI p] h = some ([], h') ∧ h' 130 29 = (L : Int) ∧ (∀ i : Nat, i < L → h' 141 i = chI c p i) ∧ LcM h h' := by
  have hn := w.1
  have hL := g.le w hp
  have key : ∀ (m i : Nat) (f : mM), i + m = L → f 130 29 = (i : Int) → (∀ j : Nat, j < i → f 141 j = chI c p j) → LcM h f → ∃ h', X xs d k_M_laysChain 7 [mR 130, mI p, mI ((vis c p i : Nat) : Int), mI (chI c p i)] [] f = some ([], h') ∧ h' 130 29 = (L : Int) ∧ (∀ i : Nat, i < L → h' 141 i = chI c p i) ∧ LcM h h' := by
    intro m
    induction m with
    | zero =>
      intro i f hi h1 h2 h3
      obtain rfl : i = L := by omega
      refine ⟨f, ?_, h1, h2, h3⟩
      rw [e_M_laysChain_7]
      rcases chI_rng w hp i with r | r
      · rw [if_pos r]
      · rw [if_neg (by omega)]
        have e : chI c p i = (((chI c p i).toNat : Nat) : Int) := by omega
        have s' : (vis c p i).testBit (chI c p i).toNat = true := by
          rcases s with s | s
          · omega
          · exact s
        have := m_isInN (xs := xs) (d := d) (h := f) (vis_128 w hp g) (show (chI c p i).toNat < 7 by omega)
        rw [← e] at this
        refine cI_of (this) ?_
        refine if_n ((fun z => b2i_0.mp z s')) ?_
        rfl
    | succ m ih =>
      intro i f hi h1 h2 h3
      have gi : GoC c p i := fun j hj => g j (by omega)
      have ns := g i (by omega)
      have hr : 0 ≤ chI c p i ∧ chI c p i < c 0 0 := by
        rcases chI_rng w hp i with r | r
        · exact absurd (Or.inl r) ns
        · exact r
      have e : chI c p i = (((chI c p i).toNat : Nat) : Int) := by omega
      have hb : ¬ (vis c p i).testBit (chI c p i).toNat = true := fun z => ns (Or.inr z)
      have h3' : LcM h (upM (upM f 141 (i : Int) (chI c p i)) 130 29 ((i : Int) + 1)) := h3.tr ⟨fun a e1 e2 => by rw [up_row e1, up_row e2], fun j hj => by rw [up_at, if_neg hj, up_ne (by omega)]⟩
      have kM : CoM c (upM (upM f 141 (i : Int) (chI c p i)) 130 29 ((i : Int) + 1)) := k.mv (h3'.1 131 (by omega) (by omega))
      obtain ⟨h', r1, r2⟩ := ih (i + 1) _ (by omega) (by rw [up_eq]; rfl) (fun j hj => by
        rw [up_ne (by omega), up_at]
        by_cases e2 : j = i
        · subst e2; rw [if_pos rfl]
        · rw [if_neg (by omega)]; exact h2 j (by omega)) h3'
      refine ⟨h', ?_, r2⟩
      rw [e_M_laysChain_7]
      refine if_n (by omega) ?_
      have := m_isInN (xs := xs) (d := d) (h := f) (vis_128 w hp gi) (show (chI c p i).toNat < 7 by omega)
      rw [← e] at this
      refine cI_of (this) ?_
      refine if_y (b2i_0.mpr hb) ?_
      rw [h1]
      refine if_y (by omega) ?_
      refine if_y (by omega) ?_
      refine cI_of (m_whomOf kM w hr) ?_
      rw [vis_next w hp gi hr]
      have e2 : chI c p (i + 1) = c 7 (chI c p i) := by rw [chI, if_neg (by omega)]
      rw [← e2]
      exact r1
  obtain ⟨h', r1, r2, r3, r4⟩ := key L 0 (upM h 130 29 0) (by omega) up_eq (fun j hj => by omega) ⟨fun a e1 e2 => up_row e1, fun j hj => by rw [up_at, if_neg hj]⟩
  exact ⟨h', by rw [c_M_laysChain]; exact r1, r2, r3, r4⟩
end
section
variable {xs : List Int} {d : Nat} {c : Kc} {h : mM} {p : Int}
/-- the class changed nothing -/
theorem QI.mkR {iT iM : Nat} {a : List mv} (R : Rel h) (k0 : SlotR 12 30 c h 0 0) (v s : Int) {g : mM} (hT : C xs d iT 0 (mR 0 :: a) h = some ([mI v], upM h 0 0 s)) (hM : C xs d iM 0 (mR 130 :: a) (upM h 0 0 s) = some ([mI v], upM g 130 2 s)) (kM : CoM c g) (o : Keep (upM h 0 0 s) g) (o3 : ∀ b, b ≤ 18 → g b = upM h 0 0 s b) : QI xs d h iT iM a :=
  QI.mkU R k0 v s hT k0.1 Keep.rf hM kM o (fun b h1 h2 => by rw [o3 b h2, up_row (by omega)]) (o3 0 (by omega)) k0.2.2.1 k0.2.2.2.1 rfl
theorem q_chain (R : Rel h) (x : Int) : QI xs d h 36 172 [mI x] := by
  obtain ⟨c, k⟩ := R.co
  have kT := k.1
  have kM := CoM.z.mp k.2.1
  have w := k.2.2.1
  by_cases q : 0 ≤ x ∧ x < c 0 0
  rotate_left
  · refine QI.ans R 1 (-1) ?_ ?_
    · rw [c_T_chain]
      refine cI_of (t_has12 kT x) ?_
      rw [if_pos (b2i_0.mpr q)]
      refine cI_of (c_T_refuse xs d _ h) ?_
      rfl
    · rw [c_M_chain]
      refine cI_of (m_isPerson (kM.z0 1) x) ?_
      rw [if_pos (b2i_0.mpr q)]
      refine cI_of (c_M_refuse xs d _ _) ?_
      rfl
  obtain ⟨L, l1, l2, g, s⟩ := chain_end w q
  obtain ⟨g', r1, r2, r3, r4⟩ := m_laysChain (xs := xs) (d := d) (kM.z0 0) w q g s
  refine QI.mkR R k (L : Int) 0 (g := g') ?_ ?_ ((kM.z0 0).mv (r4.1 131 (by omega) (by omega))) r4.keep (fun b hb => r4.1 b (by omega) (by omega))
  · rw [c_T_chain]
    refine cI_of (t_has12 kT x) ?_
    rw [if_neg (fun z => b2i_0.mp z q)]
    refine cI_of (t_chainLength kT w q g s) ?_
    refine cI_of (c_T_answer xs d _ _) ?_
    rfl
  · rw [c_M_chain]
    refine cI_of (m_isPerson (kM.z0 0) x) ?_
    rw [if_neg (fun z => b2i_0.mp z q)]
    refine cV_of (r1) ?_
    rw [r2]
    refine cI_of (c_M_gives xs d _ _) ?_
    rfl
theorem q_chainAt (R : Rel h) (x y : Int) : QI xs d h 37 173 [mI x, mI y] := by
  obtain ⟨c, k⟩ := R.co
  have kT := k.1
  have kM := CoM.z.mp k.2.1
  have w := k.2.2.1
  by_cases q : 0 ≤ x ∧ x < c 0 0
  rotate_left
  · refine QI.ans R 1 (-1) ?_ ?_
    · rw [c_T_chainAt]
      refine cI_of (t_has12 kT x) ?_
      rw [if_pos (b2i_0.mpr q)]
      refine cI_of (c_T_refuse xs d _ h) ?_
      rfl
    · rw [c_M_chainAt]
      refine cI_of (m_isPerson (kM.z0 1) x) ?_
      rw [if_pos (b2i_0.mpr q)]
      refine cI_of (c_M_refuse xs d _ _) ?_
      rfl
  by_cases q2 : y < 0
  · refine QI.ans R 1 (-1) ?_ ?_
    · rw [c_T_chainAt]
      refine cI_of (t_has12 kT x) ?_
      rw [if_neg (fun z => b2i_0.mp z q)]
      refine if_y (by omega) ?_
      refine cI_of (c_T_refuse xs d _ h) ?_
      rfl
    · rw [c_M_chainAt]
      refine cI_of (m_isPerson (kM.z0 1) x) ?_
      rw [if_neg (fun z => b2i_0.mp z q)]
      refine if_y (by omega) ?_
      refine cI_of (c_M_refuse xs d _ _) ?_
      rfl
  obtain ⟨n, rfl⟩ : ∃ n : Nat, y = (n : Int) := ⟨y.toNat, by omega⟩
  obtain ⟨L, l1, l2, g, s⟩ := chain_end w q
  have hn := w.1
  by_cases q3 : n < L
  · obtain ⟨g', r1, r2, r3, r4⟩ := m_laysChain (xs := xs) (d := d) (kM.z0 0) w q g s
    refine QI.mkR R k (chI c x n) 0 (g := g') ?_ ?_ ((kM.z0 0).mv (r4.1 131 (by omega) (by omega))) r4.keep (fun b hb => r4.1 b (by omega) (by omega))
    · rw [c_T_chainAt]
      refine cI_of (t_has12 kT x) ?_
      rw [if_neg (fun z => b2i_0.mp z q)]
      refine if_n (by omega) ?_
      refine cI_of (t_chainLength kT w q g s) ?_
      refine if_y (by omega) ?_
      refine cI_of (t_alongChain kT w q g q3) ?_
      refine cI_of (c_T_answer xs d _ _) ?_
      rfl
    · rw [c_M_chainAt]
      refine cI_of (m_isPerson (kM.z0 0) x) ?_
      rw [if_neg (fun z => b2i_0.mp z q)]
      refine if_n (by omega) ?_
      refine cV_of (r1) ?_
      rw [r2]
      refine if_y (by omega) ?_
      refine if_y (by omega) ?_
      rw [r3 n q3]
      refine cI_of (c_M_gives xs d _ _) ?_
      rfl
  · obtain ⟨g', r1, r2, r3, r4⟩ := m_laysChain (xs := xs) (d := d) (kM.z0 6) w q g s
    refine QI.mkR R k (-1) 6 (g := g') ?_ ?_ ((kM.z0 6).mv (r4.1 131 (by omega) (by omega))) r4.keep (fun b hb => r4.1 b (by omega) (by omega))
    · rw [c_T_chainAt]
      refine cI_of (t_has12 kT x) ?_
      rw [if_neg (fun z => b2i_0.mp z q)]
      refine if_n (by omega) ?_
      refine cI_of (t_chainLength kT w q g s) ?_
      refine if_n (by omega) ?_
      refine cI_of (c_T_refuse xs d _ _) ?_
      rfl
    · rw [c_M_chainAt]
      refine cI_of (m_isPerson (kM.z0 6) x) ?_
      rw [if_neg (fun z => b2i_0.mp z q)]
      refine if_n (by omega) ?_
      refine cV_of (r1) ?_
      rw [r2]
      refine if_n (by omega) ?_
      refine cI_of (c_M_refuse xs d _ _) ?_
      rfl
/-- the chain of one within it comes back to him -/
def rgB (c : Kc) (L : Nat → Nat) : Nat → Bool := fun q => decide (chI c (q : Int) (L q) = (q : Int))
theorem t_isInRing (k : CoT 12 c h) (w : WfC c) (hp : 0 ≤ p ∧ p < c 0 0) {L : Nat} (l1 : (L : Int) ≤ c 0 0) (l2 : 1 ≤ L) (g : GoC c p L) (s : stp c p L) : C xs d 250 0 [mR 12, mI p] h = some ([mI (b2i (chI c p L = p))], h) := by
  have hn := w.1
  have early : ∀ t, 1 ≤ t → t < L → chI c p t ≠ p := fun t h1 h2 e => g t h2 (Or.inr ((vis_bit t _).mpr ⟨0, by omega, by rw [e]; rfl⟩))
  have e0 : h 18 p = chI c p 1 := by
    rw [show h 18 p = c 7 p from k.q _ hp.1 hp.2]
    show _ = if p = -1 then -1 else c 7 p
    rw [if_neg (by omega)]
  rw [c_Co_isInRing]
  refine if_y (by omega) ?_
  rw [e0]
  have fin : ∀ i : Nat, (∀ j, 1 ≤ j → j < i → chI c p j ≠ p ∧ chI c p j ≠ -1) → 1 ≤ i → (chI c p i = -1 ∨ chI c p i = p ∨ c 0 0 < (i : Int)) → (chI c p i = p ↔ chI c p L = p) := by
    intro i hj h1 h2
    constructor
    · intro e
      exact comes_back w hp g s h1 e
    · intro e
      by_cases q : L < i
      · exact absurd e (hj L l2 q).1
      · by_cases q2 : i = L
        · rw [q2]; exact e
        · rcases h2 with h2 | h2 | h2
          · exact absurd h2 (g.ne i (by omega))
          · exact h2
          · omega
  have key : ∀ (m i : Nat), i + m = (c 0 0).toNat + 1 → 1 ≤ i → (∀ j, 1 ≤ j → j < i → chI c p j ≠ p ∧ chI c p j ≠ -1) → X xs d k_Co_isInRing 7 [mR 12, mI p, mI (chI c p i), mI ((i : Int) - 1)] [] h = some ([mI (b2i (chI c p L = p))], h) := by
    intro m
    induction m with
    | zero =>
      intro i hi h1 hj
      have f := fin i hj h1 (Or.inr (Or.inr (by omega)))
      rw [e_Co_isInRing_7, k.n]
      refine if_n (by omega) ?_
      by_cases q : chI c p i = p
      · rw [if_pos q, b2i_y (f.mp q)]
      · rw [if_neg q, b2i_n (fun z => q (f.mpr z))]
    | succ m ih =>
      intro i hi h1 hj
      rw [e_Co_isInRing_7, k.n]
      refine if_y (by omega) ?_
      refine cI_of (t_has12 k _) ?_
      rcases chI_rng w hp i with r | r
      · refine if_y (b2i_0.mpr (by omega)) ?_
        have f := fin i hj h1 (Or.inl r)
        rw [if_neg (by omega), b2i_n (fun z => by have := f.mpr z; omega)]
      · refine if_n ((fun z => b2i_0.mp z r)) ?_
        by_cases q : chI c p i = p
        · have f := fin i hj h1 (Or.inr (Or.inl q))
          rw [if_pos q, if_pos q, b2i_y (f.mp q)]
        · rw [if_neg q]
          refine if_y (by omega) ?_
          refine if_y (by omega) ?_
          rw [show h 18 (chI c p i) = chI c p (i + 1) by rw [show h 18 (chI c p i) = c 7 (chI c p i) from k.q _ r.1 r.2, chI, if_neg (by omega)]]
          have := ih (i + 1) (by omega) (by omega) (fun j a b => by
            by_cases e : j = i
            · subst e; exact ⟨q, by omega⟩
            · exact hj j a (by omega))
          rw [show (((i + 1 : Nat) : Int) - 1) = (i : Int) - 1 + 1 by omega] at this
          exact this
  exact key (c 0 0).toNat 1 (by omega) (by omega) (fun j a b => by omega)
abbrev leadP (c : Kc) (p : Int) (L : Nat) : Prop := chI c p L = p ∧ ∀ j, j < L → p ≤ chI c p j
theorem t_leadsRing (k : CoT 12 c h) (w : WfC c) (hp : 0 ≤ p ∧ p < c 0 0) {L : Nat} (l1 : (L : Int) ≤ c 0 0) (l2 : 1 ≤ L) (g : GoC c p L) (s : stp c p L) : C xs d 251 0 [mR 12, mI p] h = some ([mI (b2i (leadP c p L))], h) := by
  have hn := w.1
  have e0 : h 18 p = chI c p 1 := by
    rw [show h 18 p = c 7 p from k.q _ hp.1 hp.2]
    show _ = if p = -1 then -1 else c 7 p
    rw [if_neg (by omega)]
  have ring := t_isInRing (xs := xs) (d := d) k w hp l1 l2 g s
  rw [c_Co_leadsRing]
  refine if_y (by omega) ?_
  rw [e0]
  -- at the end of the loop, as it comes out
  have fin1 : ∀ i : Nat, (∀ j, 1 ≤ j → j < i → p < chI c p j) → 1 ≤ i → chI c p i = p → leadP c p L := by
    intro i hj h1 e
    have e2 := comes_back w hp g s h1 e
    refine ⟨e2, fun j hjL => ?_⟩
    by_cases q : j = 0
    · subst q; exact Int.le_refl _
    · by_cases q2 : j < i
      · exact Int.le_of_lt (hj j (by omega) q2)
      · by_cases q3 : i = j
        · subst q3; omega
        · exact absurd (Or.inr ((vis_bit i _).mpr ⟨0, by omega, by rw [e]; rfl⟩)) (g i (by omega))
  have fin2 : ∀ i : Nat, (∀ j, 1 ≤ j → j < i → p < chI c p j) → 1 ≤ i → (chI c p i < p ∨ c 0 0 < (i : Int)) → chI c p i ≠ p → ¬ leadP c p L := by
    intro i hj h1 h2 hne ⟨e1, e2⟩
    by_cases q : L < i
    · have := hj L l2 q
      omega
    · by_cases q2 : i = L
      · exact hne (q2 ▸ e1)
      · rcases h2 with h2 | h2
        · have := e2 i (by omega)
          omega
        · omega
  have key : ∀ (m i : Nat), i + m = (c 0 0).toNat + 1 → 1 ≤ i → (∀ j, 1 ≤ j → j < i → p < chI c p j) → X xs d k_Co_leadsRing 7 [mR 12, mI p, mI (chI c p i), mI ((i : Int) - 1)] [] h = some ([mI (b2i (leadP c p L))], h) := by
    intro m
    induction m with
    | zero =>
      intro i hi h1 hj
      rw [e_Co_leadsRing_7, k.n]
      refine if_n (by omega) ?_
      by_cases q : chI c p i = p
      · have f := fin1 i hj h1 q
        rw [if_pos q]
        refine cI_of (ring) ?_
        refine if_n ((fun z => b2i_0.mp z f.1)) ?_
        rw [b2i_y f]
      · rw [if_neg q, b2i_n (fin2 i hj h1 (Or.inr (by omega)) q)]
    | succ m ih =>
      intro i hi h1 hj
      rw [e_Co_leadsRing_7, k.n]
      refine if_y (by omega) ?_
      refine cI_of (t_has12 k _) ?_
      rcases chI_rng w hp i with r | r
      · refine if_y (b2i_0.mpr (by omega)) ?_
        rw [if_neg (by omega), b2i_n (fin2 i hj h1 (Or.inl (by omega)) (by omega))]
      · refine if_n ((fun z => b2i_0.mp z r)) ?_
        by_cases q1 : p < chI c p i
        · rw [if_pos q1]
          refine if_y (by omega) ?_
          refine if_y (by omega) ?_
          rw [show h 18 (chI c p i) = chI c p (i + 1) by rw [show h 18 (chI c p i) = c 7 (chI c p i) from k.q _ r.1 r.2, chI, if_neg (by omega)]]
          have := ih (i + 1) (by omega) (by omega) (fun j a b => by
            by_cases e : j = i
            · subst e; exact q1
            · exact hj j a (by omega))
          rw [show (((i + 1 : Nat) : Int) - 1) = (i : Int) - 1 + 1 by omega] at this
          exact this
        · rw [if_neg q1]
          by_cases q : chI c p i = p
          · have f := fin1 i hj h1 q
            rw [if_pos q]
            refine cI_of (ring) ?_
            refine if_n ((fun z => b2i_0.mp z f.1)) ?_
            rw [b2i_y f]
          · rw [if_neg q, b2i_n (fin2 i hj h1 (Or.inl (by omega)) q)]
  exact key (c 0 0).toNat 1 (by omega) (by omega) (fun j a b => by omega)
theorem m_ringOf (k : CoM c h) (w : WfC c) (hp : 0 ≤ p ∧ p < c 0 0) {L : Nat} (l1 : (L : Int) ≤ c 0 0) (l2 : 1 ≤ L) (g : GoC c p L) (s : stp c p L) : ∃ h', C xs d 174 0 [mR 130, mI p] h = some ([mI (((if chI c p L = p then vis c p L else 0) : Nat) : Int)], h') ∧ LcM h h' := by
  have hn := w.1
  obtain ⟨h', r1, r2, r3, r4⟩ := m_laysChain (xs := xs) (d := d) k w hp g s
  have kM : CoM c h' := k.mv (r4.1 131 (by omega) (by omega))
  refine ⟨h', ?_, r4⟩
  rw [c_M_ringOf]
  refine cV_of (r1) ?_
  rw [r2]
  refine if_y (by omega) ?_
  refine if_y (by omega) ?_
  have e1 : (L : Int) - 1 = ((L - 1 : Nat) : Int) := by omega
  rw [e1, r3 (L - 1) (by omega)]
  have rg : ∀ i, i < L → 0 ≤ chI c p i ∧ chI c p i < c 0 0 := fun i hi => by
    rcases chI_rng w hp i with r | r
    · exact absurd r (g.ne i hi)
    · exact r
  refine cI_of (m_whomOf kM w (rg _ (by omega))) ?_
  have e2 : c 7 (chI c p (L - 1)) = chI c p L := by
    have : L = L - 1 + 1 := by omega
    rw [this, chI, if_neg (by have := rg (L - 1) (by omega); omega), Nat.add_sub_cancel]
  rw [e2]
  by_cases q : chI c p L = p
  · rw [if_pos q, if_pos q]
    have st : ∀ i : Nat, i < L → X xs d k_M_ringOf 20 [mR 130, mI p, mI ((vis c p i : Nat) : Int), mI (i : Int)] [] h' = X xs d k_M_ringOf 20 [mR 130, mI p, mI ((vis c p (i + 1) : Nat) : Int), mI ((i + 1 : Nat) : Int)] [] h' := by
      intro i hi
      rw [e_M_ringOf_20, r2, r3 i hi]
      refine if_y (by omega) ?_
      refine if_y (by omega) ?_
      refine if_y (by omega) ?_
      rw [vis_next w hp (fun j hj => g j (by omega)) (rg i hi)]
      rfl
    refine (run_to (fun i : Nat => X xs d k_M_ringOf 20 [mR 130, mI p, mI ((vis c p i : Nat) : Int), mI (i : Int)] [] h') st).trans ?_
    rw [e_M_ringOf_20, r2, if_neg (by omega)]
  · rw [if_neg q, if_neg q]
    rfl
end
theorem low_bits : ∀ p, p < 7 → ∀ x, x < 128 → decide (fAnd ((x : Nat) : Int) (fShl 1 ((p : Nat) : Int) - 1) = 0) = (List.range p).all (fun q => !x.testBit q) := by decide +kernel
theorem shl_1 : ∀ p, p < 7 → inI (fShl 1 ((p : Nat) : Int) - 1) := by decide +kernel
section
variable {xs : List Int} {d : Nat} {c : Kc} {h : mM}
def ChE (c : Kc) (p : Int) (L : Nat) : Prop := (L : Int) ≤ c 0 0 ∧ 1 ≤ L ∧ GoC c p L ∧ stp c p L
theorem chE_all (w : WfC c) : ∃ L : Nat → Nat, ∀ p : Nat, (p : Int) < c 0 0 → ChE c p (L p) := by
  have : ∀ p : Nat, ∃ L : Nat, (p : Int) < c 0 0 → ChE c p L := fun p => by
    by_cases q : (p : Int) < c 0 0
    · obtain ⟨L, h⟩ := chain_end w (p := (p : Int)) (by omega)
      exact ⟨L, fun _ => h⟩
    · exact ⟨0, fun z => absurd z q⟩
  exact ⟨fun p => Classical.choose (this p), fun p => Classical.choose_spec (this p)⟩
/-- the people in one's ring -/
def rsN (c : Kc) (L : Nat → Nat) (p : Nat) : Nat := if chI c p (L p) = p then vis c p (L p) else 0
theorem rsN_lt (w : WfC c) {L : Nat → Nat} {p : Nat} (hp : (p : Int) < c 0 0) (e : ChE c p (L p)) : rsN c L p < 2 ^ (c 0 0).toNat := by
  unfold rsN
  split
  · exact vis_lt w (by omega) _ e.2.2.1.ne
  · exact Nat.two_pow_pos _
theorem rsN_bit (w : WfC c) {L : Nat → Nat} {p : Nat} (hp : (p : Int) < c 0 0) (e : ChE c p (L p)) {q : Nat} : (rsN c L p).testBit q = true ↔ chI c p (L p) = p ∧ ∃ j, j < L p ∧ chI c p j = (q : Int) := by
  unfold rsN
  split
  · next z =>
    rw [vis_bit]
    constructor
    · rintro ⟨j, h1, h2⟩
      have := e.2.2.1.ne j h1
      have := chI_rng w (p := (p : Int)) (by omega) j
      exact ⟨z, j, h1, by omega⟩
    · rintro ⟨-, j, h1, h2⟩
      exact ⟨j, h1, by omega⟩
  · next z =>
    rw [Nat.zero_testBit]
    exact ⟨fun y => (by cases y), fun y => absurd y.1 z⟩
theorem lead_iff (w : WfC c) {L : Nat → Nat} {p : Nat} (hp : (p : Int) < c 0 0) (e : ChE c p (L p)) : leadP c p (L p) ↔ rsN c L p ≠ 0 ∧ fAnd ((rsN c L p : Nat) : Int) (fShl 1 (p : Int) - 1) = 0 := by
  have hn := w.1
  have lt : rsN c L p < 128 := Nat.lt_of_lt_of_le (rsN_lt w hp e) (pow_le7 (by omega))
  have lb := low_bits p (by omega) _ lt
  have lbi : fAnd ((rsN c L p : Nat) : Int) (fShl 1 (p : Int) - 1) = 0 ↔ ∀ q, q < p → (rsN c L p).testBit q = false := by
    rw [← decide_eq_true_iff (p := fAnd ((rsN c L p : Nat) : Int) (fShl 1 (p : Int) - 1) = 0), lb, List.all_eq_true]
    constructor
    · intro z q hq
      have := z q (List.mem_range.mpr hq)
      simpa using this
    · intro z q hq
      have := z q (List.mem_range.mp hq)
      simpa using this
  rw [lbi]
  constructor
  · rintro ⟨h1, h2⟩
    refine ⟨fun z => ?_, fun q hq => ?_⟩
    · have b : (rsN c L p).testBit p = true := (rsN_bit w hp e).mpr ⟨h1, 0, by have := e.2.1; omega, rfl⟩
      rw [z, Nat.zero_testBit] at b
      cases b
    · rw [← Bool.not_eq_true]
      intro z
      obtain ⟨_, j, j1, j2⟩ := (rsN_bit w hp e).mp z
      have := h2 j j1
      omega
  · rintro ⟨h1, h2⟩
    have r : chI c p (L p) = p := by
      by_cases z : chI c p (L p) = p
      · exact z
      · exact absurd (if_neg z) h1
    refine ⟨r, fun j hj => ?_⟩
    have := e.2.2.1.ne j hj
    have := chI_rng w (p := (p : Int)) (by omega) j
    by_cases z : (p : Int) ≤ chI c p j
    · exact z
    · have b : (rsN c L p).testBit (chI c p j).toNat = true := (rsN_bit w hp e).mpr ⟨r, j, hj, by omega⟩
      rw [h2 _ (by omega)] at b
      cases b
theorem sumN_s {f : Nat → Int} {k : Nat} : sumN f (k + 1) = sumN f k + f k := rfl
theorem q_rings (R : Rel h) : QI xs d h 38 175 [] := by
  obtain ⟨c, k⟩ := R.co
  have kT := k.1
  have kM := CoM.z.mp k.2.1
  have w := k.2.2.1
  have hn := w.1
  obtain ⟨L, eL⟩ := chE_all w
  let f : Nat → Int := fun i => b2i (leadP c (i : Int) (L i))
  have fb : ∀ i : Nat, 0 ≤ sumN f i ∧ sumN f i ≤ 1 * i := fun i => sumN_bd (fun j _ => b2i_01)
  have tL : C xs d 38 0 [mR 0] h = some ([mI (sumN f (c 0 0).toNat)], upM h 0 0 0) := by
    rw [c_T_rings]
    have st : ∀ i : Nat, i < (c 0 0).toNat → X xs d k_T_rings 4 [mR 0, mI (sumN f i), mI (i : Int)] [] h = X xs d k_T_rings 4 [mR 0, mI (sumN f (i + 1)), mI ((i + 1 : Nat) : Int)] [] h := by
      intro i hi
      obtain ⟨l1, l2, g, s⟩ := eL i (by omega)
      have := fb i
      rw [e_T_rings_4, kT.n]
      refine if_y (by omega) ?_
      refine cI_of (t_leadsRing kT w (by omega) l1 l2 g s) ?_
      by_cases q : leadP c (i : Int) (L i)
      · refine if_n ((fun z => b2i_0.mp z q)) ?_
        refine if_y (by omega) ?_
        rw [e_T_rings_15]
        refine if_y (by omega) ?_
        rw [sumN_s, show f i = 1 from b2i_y q]
        rfl
      · refine if_y (b2i_0.mpr q) ?_
        rw [e_T_rings_15]
        refine if_y (by omega) ?_
        rw [sumN_s, show f i = 0 from b2i_n q, Int.add_zero]
        rfl
    refine (run_to (fun i : Nat => X xs d k_T_rings 4 [mR 0, mI (sumN f i), mI (i : Int)] [] h) st).trans ?_
    rw [e_T_rings_4, kT.n, if_neg (by omega)]
    refine cI_of (c_T_answer xs d _ _) ?_
    rfl
  have kM0 : CoM c (upM h 0 0 0) := kM.z0 0
  have mL : ∃ g, C xs d 175 0 [mR 130] (upM h 0 0 0) = some ([mI (sumN f (c 0 0).toNat)], upM g 130 2 0) ∧ LcM (upM h 0 0 0) g := by
    have key : ∀ (m i : Nat) (g : mM) (x3 x4 : mv), i + m = (c 0 0).toNat → LcM (upM h 0 0 0) g → ∃ g', X xs d k_M_rings 4 [mR 130, mI (sumN f i), mI (i : Int), x3, x4] [] g = some ([mI (sumN f (c 0 0).toNat)], upM g' 130 2 0) ∧ LcM (upM h 0 0 0) g' := by
      intro m
      induction m with
      | zero =>
        intro i g x3 x4 hi o
        have kg : CoM c g := kM0.mv (o.1 131 (by omega) (by omega))
        refine ⟨g, ?_, o⟩
        rw [e_M_rings_4, kg.n, if_neg (by omega)]
        refine cI_of (c_M_gives xs d _ _) ?_
        rw [show i = (c 0 0).toNat by omega]
      | succ m ih =>
        intro i g x3 x4 hi o
        have kg : CoM c g := kM0.mv (o.1 131 (by omega) (by omega))
        have e := eL i (by omega)
        obtain ⟨l1, l2, gg, s⟩ := e
        obtain ⟨g2, r1, r2⟩ := m_ringOf (xs := xs) (d := d) kg w (p := (i : Int)) (by omega) l1 l2 gg s
        have li := lead_iff w (L := L) (p := i) (by omega) (eL i (by omega))
        have := fb i
        have sh := shl_1 i (by omega)
        have fin : ∀ (s0 : Int) (x : mv), f i = (if s0 = 0 then 0 else 1) → ∃ g', X xs d k_M_rings 27 [mR 130, mI (sumN f i), mI (i : Int), mI ((rsN c L i : Nat) : Int), x] [mI s0] g2 = some ([mI (sumN f (c 0 0).toNat)], upM g' 130 2 0) ∧ LcM (upM h 0 0 0) g' := by
          intro s0 x hs
          obtain ⟨g', u1, u2⟩ := ih (i + 1) g2 (mI ((rsN c L i : Nat) : Int)) (mI s0) (by omega) (o.tr r2)
          refine ⟨g', ?_, u2⟩
          rw [e_M_rings_27]
          by_cases z : s0 = 0
          · rw [if_pos z] at hs ⊢
            rw [e_M_rings_34]
            refine if_y (by omega) ?_
            refine if_y (by omega) ?_
            rw [sumN_s, hs] at u1
            exact u1
          · rw [if_neg z] at hs ⊢
            rw [e_M_rings_34]
            refine if_y (by omega) ?_
            refine if_y (by omega) ?_
            rw [sumN_s, hs] at u1
            exact u1
        by_cases q : leadP c (i : Int) (L i)
        · obtain ⟨q1, q2⟩ := li.mp q
          obtain ⟨g', u1, u2⟩ := fin 1 x4 (by rw [if_neg (by omega)]; exact b2i_y q)
          refine ⟨g', ?_, u2⟩
          rw [e_M_rings_4, kg.n]
          refine if_y (by omega) ?_
          refine cI_of (r1) ?_
          show (if ((rsN c L i : Nat) : Int) = 0 then _ else _) = _
          refine if_n (by omega) ?_
          refine if_y (sh) ?_
          refine if_y (q2) ?_
          exact u1
        · obtain ⟨g', u1, u2⟩ := fin 0 x4 (by rw [if_pos rfl]; exact b2i_n q)
          refine ⟨g', ?_, u2⟩
          rw [e_M_rings_4, kg.n]
          refine if_y (by omega) ?_
          refine cI_of (r1) ?_
          show (if ((rsN c L i : Nat) : Int) = 0 then _ else _) = _
          by_cases z : ((rsN c L i : Nat) : Int) = 0
          · rw [if_pos z, e_M_rings_26]
            exact u1
          · rw [if_neg z]
            refine if_y (sh) ?_
            refine if_n ((fun y => q (li.mpr ⟨by omega, y⟩))) ?_
            rw [e_M_rings_26]
            exact u1
    obtain ⟨g, u1, u2⟩ := key (c 0 0).toNat 0 (upM h 0 0 0) (mC 0) (mC 0) (by omega) LcM.rf
    exact ⟨g, by rw [c_M_rings]; exact u1, u2⟩
  obtain ⟨g, u1, u2⟩ := mL
  exact QI.mkR R k _ 0 tL u1 (kM0.mv (u2.1 131 (by omega) (by omega))) u2.keep (fun b hb => u2.1 b (by omega) (by omega))
def rgU (c : Kc) (L : Nat → Nat) : Nat → Nat
  | 0 => 0
  | i + 1 => rgU c L i ||| rsN c L i
theorem rgU_lt (w : WfC c) {L : Nat → Nat} (e : ∀ p : Nat, (p : Int) < c 0 0 → ChE c p (L p)) : ∀ i, i ≤ (c 0 0).toNat → rgU c L i < 2 ^ (c 0 0).toNat
  | 0, _ => Nat.two_pow_pos _
  | i + 1, h => or_lt (rgU_lt w e i (by omega)) (rsN_lt w (by omega) (e i (by omega)))
theorem rgU_bit {L : Nat → Nat} : ∀ i q, (rgU c L i).testBit q = true ↔ ∃ p, p < i ∧ (rsN c L p).testBit q = true
  | 0, q => by simp [rgU]
  | i + 1, q => by
    rw [rgU, Nat.testBit_or, Bool.or_eq_true, rgU_bit i q]
    constructor
    · rintro (⟨p, h1, h2⟩ | h)
      · exact ⟨p, by omega, h2⟩
      · exact ⟨i, by omega, h⟩
    · rintro ⟨p, h1, h2⟩
      by_cases e : p = i
      · subst e; exact Or.inr h2
      · exact Or.inl ⟨p, by omega, h2⟩
theorem rgU_all (w : WfC c) {L : Nat → Nat} (e : ∀ p : Nat, (p : Int) < c 0 0 → ChE c p (L p)) : rgU c L (c 0 0).toNat = sq (rgB c L) (c 0 0).toNat := by
  have hn := w.1
  refine Nat.eq_of_testBit_eq (fun q => ?_)
  rw [sq_bit]
  refine Bool.eq_iff_iff.mpr ?_
  rw [rgU_bit, Bool.and_eq_true, decide_eq_true_iff]
  unfold rgB
  rw [decide_eq_true_iff]
  constructor
  · rintro ⟨p, h1, h2⟩
    obtain ⟨r, j, h3, h4⟩ := (rsN_bit w (by omega) (e p (by omega))).mp h2
    have := chI_rng w (p := (p : Int)) (by omega) j
    obtain ⟨l1, l2, g, s⟩ := e q (by omega)
    refine ⟨by omega, comes_back w (by omega) g s (m := L p) (by omega) ?_⟩
    have a1 := chI_add h4 (L p - j)
    rw [show j + (L p - j) = L p by omega, r] at a1
    have a2 := chI_add (c := c) (p := (q : Int)) (j := L p - j) (q := (p : Int)) a1.symm j
    rw [show L p - j + j = L p by omega, h4] at a2
    exact a2
  · rintro ⟨h1, h2⟩
    exact ⟨q, h1, (rsN_bit w (by omega) (e q (by omega))).mpr ⟨h2, 0, by have := (e q (by omega)).2.1; omega, rfl⟩⟩
theorem q_inRings (R : Rel h) : QI xs d h 39 176 [] := by
  obtain ⟨c, k⟩ := R.co
  have kT := k.1
  have kM := CoM.z.mp k.2.1
  have w := k.2.2.1
  have hn := w.1
  obtain ⟨L, eL⟩ := chE_all w
  have tL : C xs d 39 0 [mR 0] h = some ([mI ((sq (rgB c L) (c 0 0).toNat : Nat) : Int)], upM h 0 0 0) := by
    rw [c_T_inRings]
    have st : ∀ i : Nat, i < (c 0 0).toNat → X xs d k_T_inRings 4 [mR 0, mI ((sq (rgB c L) i : Nat) : Int), mI (i : Int)] [] h = X xs d k_T_inRings 4 [mR 0, mI ((sq (rgB c L) (i + 1) : Nat) : Int), mI ((i + 1 : Nat) : Int)] [] h := by
      intro i hi
      obtain ⟨l1, l2, g, s⟩ := eL i (by omega)
      rw [e_T_inRings_4, kT.n]
      refine if_y (by omega) ?_
      refine cI_of (t_isInRing kT w (by omega) l1 l2 g s) ?_
      by_cases q : chI c (i : Int) (L i) = (i : Int)
      · refine if_n ((fun z => b2i_0.mp z q)) ?_
        rw [e_T_inRings_20]
        refine if_y (by omega) ?_
        rw [sq_or (by omega), sq_y (by unfold rgB; exact decide_eq_true q)]
        rfl
      · refine if_y (b2i_0.mpr q) ?_
        rw [e_T_inRings_20]
        refine if_y (by omega) ?_
        rw [sq_n (by unfold rgB; exact decide_eq_false q)]
        rfl
    refine (run_to (fun i : Nat => X xs d k_T_inRings 4 [mR 0, mI ((sq (rgB c L) i : Nat) : Int), mI (i : Int)] [] h) st).trans ?_
    rw [e_T_inRings_4, kT.n, if_neg (by omega)]
    refine cI_of (c_T_answer xs d _ _) ?_
    rfl
  have kM0 : CoM c (upM h 0 0 0) := kM.z0 0
  have mL : ∃ g, C xs d 176 0 [mR 130] (upM h 0 0 0) = some ([mI ((rgU c L (c 0 0).toNat : Nat) : Int)], upM g 130 2 0) ∧ LcM (upM h 0 0 0) g := by
    have key : ∀ (m i : Nat) (g : mM), i + m = (c 0 0).toNat → LcM (upM h 0 0 0) g → ∃ g', X xs d k_M_inRings 4 [mR 130, mI ((rgU c L i : Nat) : Int), mI (i : Int)] [] g = some ([mI ((rgU c L (c 0 0).toNat : Nat) : Int)], upM g' 130 2 0) ∧ LcM (upM h 0 0 0) g' := by
      intro m
      induction m with
      | zero =>
        intro i g hi o
        have kg : CoM c g := kM0.mv (o.1 131 (by omega) (by omega))
        refine ⟨g, ?_, o⟩
        rw [e_M_inRings_4, kg.n, if_neg (by omega)]
        refine cI_of (c_M_gives xs d _ _) ?_
        rw [show i = (c 0 0).toNat by omega]
      | succ m ih =>
        intro i g hi o
        have kg : CoM c g := kM0.mv (o.1 131 (by omega) (by omega))
        obtain ⟨l1, l2, gg, s⟩ := eL i (by omega)
        obtain ⟨g2, r1, r2⟩ := m_ringOf (xs := xs) (d := d) kg w (p := (i : Int)) (by omega) l1 l2 gg s
        obtain ⟨g', u1, u2⟩ := ih (i + 1) g2 (by omega) (o.tr r2)
        refine ⟨g', ?_, u2⟩
        rw [e_M_inRings_4, kg.n]
        refine if_y (by omega) ?_
        refine cI_of (r1) ?_
        refine if_y (by omega) ?_
        have b1 := Nat.lt_of_lt_of_le (rgU_lt w eL i (by omega)) (pow_le7 (by omega))
        have b2 := Nat.lt_of_lt_of_le (rsN_lt w (L := L) (p := i) (by omega) (eL i (by omega))) (pow_le7 (by omega))
        have := or_nat _ b1 _ b2
        unfold rsN at this
        rw [this]
        exact u1
    obtain ⟨g, u1, u2⟩ := key (c 0 0).toNat 0 (upM h 0 0 0) (by omega) LcM.rf
    exact ⟨g, by rw [c_M_inRings]; exact u1, u2⟩
  obtain ⟨g, u1, u2⟩ := mL
  rw [rgU_all w eL] at u1
  exact QI.mkR R k _ 0 tL u1 (kM0.mv (u2.1 131 (by omega) (by omega))) u2.keep (fun b hb => u2.1 b (by omega) (by omega))
end
