/-! EQUIV 1: companies, mathematically; the class's own -/
abbrev Kc := Nat → Int → Int
def CoT (b : Nat) (c : Kc) (h : mM) : Prop := h b 0 = c 0 0 ∧ h b 1 = c 1 0 ∧ (∀ i, 1 ≤ i → i ≤ 6 → h (b + 1) i = c 2 i) ∧ (∀ i, 0 ≤ i → i < c 0 0 → h (b + 2) i = c 3 i) ∧ (∀ i, 0 ≤ i → i < c 0 0 → h (b + 3) i = c 4 i) ∧ (∀ i, 0 ≤ i → i < c 0 0 → h (b + 4) i = c 5 i) ∧ (∀ i, 0 ≤ i → i < c 0 0 → h (b + 5) i = c 6 i) ∧ (∀ i, 0 ≤ i → i < c 0 0 → h (b + 6) i = c 7 i)
theorem CoT.n {b : Nat} {c : Kc} {h : mM} (k : CoT b c h) : h b 0 = c 0 0 := k.1
theorem CoT.g {b : Nat} {c : Kc} {h : mM} (k : CoT b c h) : h b 1 = c 1 0 := k.2.1
theorem CoT.r {b : Nat} {c : Kc} {h : mM} (k : CoT b c h) (i : Int) (h1 : 1 ≤ i) (h2 : i ≤ 6) : h (b + 1) i = c 2 i := k.2.2.1 i h1 h2
theorem CoT.p {b : Nat} {c : Kc} {h : mM} (k : CoT b c h) (i : Int) (h1 : 0 ≤ i) (h2 : i < c 0 0) : h (b + 2) i = c 3 i := k.2.2.2.1 i h1 h2
theorem CoT.m {b : Nat} {c : Kc} {h : mM} (k : CoT b c h) (i : Int) (h1 : 0 ≤ i) (h2 : i < c 0 0) : h (b + 3) i = c 4 i := k.2.2.2.2.1 i h1 h2
theorem CoT.w {b : Nat} {c : Kc} {h : mM} (k : CoT b c h) (i : Int) (h1 : 0 ≤ i) (h2 : i < c 0 0) : h (b + 4) i = c 5 i := k.2.2.2.2.2.1 i h1 h2
theorem CoT.l {b : Nat} {c : Kc} {h : mM} (k : CoT b c h) (i : Int) (h1 : 0 ≤ i) (h2 : i < c 0 0) : h (b + 5) i = c 6 i := k.2.2.2.2.2.2.1 i h1 h2
theorem CoT.q {b : Nat} {c : Kc} {h : mM} (k : CoT b c h) (i : Int) (h1 : 0 ≤ i) (h2 : i < c 0 0) : h (b + 6) i = c 7 i := k.2.2.2.2.2.2.2 i h1 h2
def WfP (c : Kc) (i : Int) : Prop := (0 ≤ c 3 i ∧ c 3 i ≤ 59) ∧ (0 ≤ c 4 i ∧ c 4 i ≤ 9) ∧ (0 ≤ c 5 i ∧ c 5 i ≤ 99) ∧ (0 ≤ c 6 i ∧ c 6 i ≤ 9) ∧ (c 7 i = -1 ∨ 0 ≤ c 7 i ∧ c 7 i < c 0 0)
def WfC (c : Kc) : Prop := (0 ≤ c 0 0 ∧ c 0 0 ≤ 7) ∧ (0 ≤ c 1 0 ∧ c 1 0 ≤ 20000) ∧ (0 ≤ c 2 1 ∧ c 2 1 ≤ 16) ∧ (0 ≤ c 2 2 ∧ c 2 2 ≤ 16) ∧ (1 ≤ c 2 3 ∧ c 2 3 ≤ 99) ∧ (0 ≤ c 2 4 ∧ c 2 4 ≤ 30) ∧ (1 ≤ c 2 5 ∧ c 2 5 ≤ 20) ∧ (1 ≤ c 2 6 ∧ c 2 6 ≤ 9) ∧ ∀ i, 0 ≤ i → i < c 0 0 → WfP c i
theorem mul_bd {a b A B : Int} (h1 : 0 ≤ a) (h2 : a ≤ A) (h3 : 0 ≤ b) (h4 : b ≤ B) : 0 ≤ a * b ∧ a * b ≤ A * B := ⟨Int.mul_nonneg h1 h3, Int.mul_le_mul h2 h4 h3 (by omega)⟩
theorem div_bd {a b : Int} (h1 : 0 ≤ a) (h2 : 0 < b) : 0 ≤ a / b ∧ a / b ≤ a := ⟨Int.ediv_nonneg h1 (by omega), Int.ediv_le_self b h1⟩
def farI (a b : Int) : Int := if a - b < 0 then -(a - b) else a - b
theorem farI_bd {a b : Int} (h : 0 ≤ a ∧ a ≤ 59) (k : 0 ≤ b ∧ b ≤ 59) : 0 ≤ farI a b ∧ farI a b ≤ 59 := by
  unfold farI
  split <;> omega
def wmI (x0 x1 x2 x3 : Int) : Int := max 0 (x0 * x1 - x2 / x3)
def warmI (c : Kc) (p : Int) : Int := wmI (c 2 5) (c 4 p) (farI (c 3 p) (c 3 (c 7 p))) (c 2 6)
theorem wmI_bd {x0 x1 x2 x3 : Int} (h0 : 0 ≤ x0 ∧ x0 ≤ 20) (h1 : 0 ≤ x1 ∧ x1 ≤ 9) (h2 : 0 ≤ x2) (h3 : 1 ≤ x3) : 0 ≤ wmI x0 x1 x2 x3 ∧ wmI x0 x1 x2 x3 ≤ 180 := by
  have := mul_bd h0.1 h0.2 h1.1 h1.2
  have := div_bd h2 (show 0 < x3 by omega)
  unfold wmI
  omega
theorem warmI_bd {c : Kc} (w : WfC c) {p : Int} (h : 0 ≤ p ∧ p < c 0 0) (hq : c 7 p ≠ -1) : 0 ≤ warmI c p ∧ warmI c p ≤ 180 := by
  obtain ⟨hn, hg, r1, r2, r3, r4, r5, r6, hp⟩ := w
  obtain ⟨a1, a2, a3, a4, a5⟩ := hp p h.1 h.2
  obtain ⟨b1, -⟩ := hp (c 7 p) (by omega) (by omega)
  exact wmI_bd ⟨by omega, r5.2⟩ a2 (farI_bd a1 b1).1 r6.1
/-- a row written from its beginning -/
def rowU (h : mM) (a : Nat) (i : Int) (f : Int → Int) : mM := fun a' k => if a' = a ∧ 0 ≤ k ∧ k < i then f k else h a' k
theorem rowU_0 {h : mM} {a : Nat} {f : Int → Int} : rowU h a 0 f = h := by
  funext a' k
  unfold rowU
  rw [if_neg (by omega)]
theorem rowU_up {h : mM} {a : Nat} {i v : Int} {f : Int → Int} (hi : 0 ≤ i) (hv : v = f i) : upM (rowU h a i f) a i v = rowU h a (i + 1) f := by
  funext a' k
  unfold upM rowU
  by_cases e : a' = a ∧ k = i
  · rw [if_pos e, if_pos ⟨e.1, by omega⟩, hv, e.2]
  · rw [if_neg e]
    by_cases e2 : a' = a ∧ 0 ≤ k ∧ k < i
    · rw [if_pos e2, if_pos ⟨e2.1, by omega⟩]
    · rw [if_neg e2, if_neg (fun z => by
        have : k = i := by
          by_cases q : k < i
          · exact absurd ⟨z.1, z.2.1, q⟩ e2
          · omega
        exact e ⟨z.1, this⟩)]
theorem rowU_in {h : mM} {a : Nat} {i k : Int} {f : Int → Int} (hk : 0 ≤ k ∧ k < i) : rowU h a i f a k = f k := if_pos ⟨rfl, hk⟩
theorem rowU_out {h : mM} {a : Nat} {i k : Int} {f : Int → Int} (hk : ¬ (0 ≤ k ∧ k < i)) : rowU h a i f a k = h a k := if_neg (fun z => hk z.2)
theorem rowU_ne {h : mM} {a b : Nat} {i : Int} {f : Int → Int} (e : b ≠ a) : rowU h a i f b = h b := funext fun k => if_neg (fun z => e z.1)
theorem Ow.row {L : List Nat} {h k : mM} {b : Nat} {i : Int} {f : Int → Int} (p : Ow L h k) (hb : b ∈ L) : Ow L h (rowU k b i f) := fun a ha => by
  have e : a ≠ b := fun z => ha (z ▸ hb)
  rw [rowU_ne e, p a ha]
section
variable {xs : List Int} {d : Nat} {b : Nat} {c : Kc} {h : mM}
theorem t_has (hb : b = 116 ∨ b = 12 ∨ b = 21) (x : Int) : C xs d 228 0 [mR b, mI x] h = some ([mI (b2i (0 ≤ x ∧ x < h b 0))], h) := by
  rw [c_Co_has xs d hb]
  by_cases q : x < 0
  · rw [if_pos q, b2i_n (by omega)]
  · by_cases q2 : x < h b 0
    · rw [if_neg q, if_pos q2, b2i_y (by omega)]
    · rw [if_neg q, if_neg q2, b2i_n (by omega)]
theorem t_isFull : C xs d 229 0 [mR 12] h = C xs d 229 0 [mR 12] h := rfl
theorem t_warmBy {x0 x1 x2 x3 : Int} (h0 : 0 ≤ x0 ∧ x0 ≤ 20) (h1 : 0 ≤ x1 ∧ x1 ≤ 9) (h2 : 0 ≤ x2 ∧ x2 ≤ 1000) (h3 : 1 ≤ x3) : C xs d 75 0 [mI x0, mI x1, mI x2, mI x3] h = some ([mI (wmI x0 x1 x2 x3)], h) := by
  have a1 := mul_bd h0.1 h0.2 h1.1 h1.2
  have a2 := div_bd h2.1 (show 0 < x3 by omega)
  rw [c_T_warmBy]
  unfold wmI
  refine if_y (by omega) ?_
  refine if_y (by omega) ?_
  refine if_y (by omega) ?_
  refine if_y (by omega) ?_
  by_cases q : 0 < x0 * x1 - x2 / x3
  · refine if_y (by omega) ?_
    rw [Int.max_eq_right (by omega)]
  · refine if_n (by omega) ?_
    rw [Int.max_eq_left (by omega)]
theorem t_apart (hb : b = 116 ∨ b = 12 ∨ b = 21) (k : CoT b c h) (w : WfC c) {i j : Int} (hi : 0 ≤ i ∧ i < c 0 0) (hj : 0 ≤ j ∧ j < c 0 0) : C xs d 233 0 [mR b, mI i, mI j] h = some ([mI (farI (c 3 i) (c 3 j))], h) := by
  have hn := w.1
  have a1 := (w.2.2.2.2.2.2.2.2 i hi.1 hi.2).1
  have a2 := (w.2.2.2.2.2.2.2.2 j hj.1 hj.2).1
  rw [c_Co_apart xs d hb, k.p i hi.1 hi.2, k.p j hj.1 hj.2]
  refine if_y (by omega) ?_
  refine if_y (by omega) ?_
  refine if_y (by omega) ?_
  refine if_y (by omega) ?_
  rfl
theorem t_warmOf (hb : b = 12 ∨ b = 21) (k : CoT b c h) (w : WfC c) {p : Int} (hp : 0 ≤ p ∧ p < c 0 0) : C xs d 234 0 [mR b, mI p] h = some ([mI (if c 7 p = -1 then 0 else warmI c p)], h) := by
  have hn := w.1
  obtain ⟨a1, a2, a3, a4, a5⟩ := w.2.2.2.2.2.2.2.2 p hp.1 hp.2
  rw [c_Co_warmOf xs d hb, k.q p hp.1 hp.2]
  refine if_y (by omega) ?_
  refine cI_of (t_has (by omega) _) ?_
  rw [k.n]
  by_cases q : c 7 p = -1
  · rw [if_pos (b2i_0.mpr (by omega)), if_pos q]
  · obtain ⟨b1, -⟩ := w.2.2.2.2.2.2.2.2 (c 7 p) (by omega) (by omega)
    rw [if_neg (fun z => b2i_0.mp z (by omega)), if_neg q]
    refine if_y (by omega) ?_
    refine cI_of (t_apart (by omega) k w hp (by omega)) ?_
    rw [k.r 5 (by omega) (by omega), k.r 6 (by omega) (by omega), k.m p hp.1 hp.2]
    refine cI_of (t_warmBy ⟨by have := w.2.2.2.2.2.2.1; omega, w.2.2.2.2.2.2.1.2⟩ a2 (by have := farI_bd a1 b1; omega) w.2.2.2.2.2.2.2.1.1) ?_
    rfl
theorem t_isLit (hb : b = 116 ∨ b = 12 ∨ b = 21) (k : CoT b c h) (w : WfC c) {p : Int} (hp : 0 ≤ p ∧ p < c 0 0) : C xs d 235 0 [mR b, mI p] h = some ([mI (b2i (c 2 3 ≤ c 5 p))], h) := by
  have hn := w.1
  rw [c_Co_isLit xs d hb, k.w p hp.1 hp.2, k.r 3 (by omega) (by omega)]
  refine if_y (by omega) ?_
  by_cases q : c 5 p < c 2 3
  · rw [if_pos q, b2i_n (by omega)]
  · rw [if_neg q, b2i_y (by omega)]
end
def litB (c : Kc) : Nat → Bool := fun p => decide (c 2 3 ≤ c 5 (p : Int))
def whoB (c : Kc) : Nat → Bool := fun p => decide (c 7 (p : Int) ≠ -1)
def warB (c : Kc) (t : Int) : Nat → Bool := fun p => decide (c 7 (p : Int) = t)
section
variable {xs : List Int} {d : Nat} {b : Nat} {c : Kc} {h : mM}
theorem t_litSet (hb : b = 116 ∨ b = 12 ∨ b = 21) (k : CoT b c h) (w : WfC c) : C xs d 236 0 [mR b] h = some ([mI ((sq (litB c) (c 0 0).toNat : Nat) : Int)], h) := by
  have hn := w.1
  rw [c_Co_litSet xs d hb]
  have st : ∀ i : Nat, i < (c 0 0).toNat → X xs d k_Co_litSet 4 [mR b, mI ((sq (litB c) i : Nat) : Int), mI (i : Int)] [] h = X xs d k_Co_litSet 4 [mR b, mI ((sq (litB c) (i + 1) : Nat) : Int), mI ((i + 1 : Nat) : Int)] [] h := by
    intro i hi
    rw [e_Co_litSet_4 xs d _ _ hb, k.n]
    refine if_y (by omega) ?_
    refine cI_of (t_isLit hb k w (by omega)) ?_
    by_cases q : c 2 3 ≤ c 5 (i : Int)
    · rw [if_neg (fun z => b2i_0.mp z q), e_Co_litSet_18 xs d _ _ hb, sq_or (by omega), sq_y (decide_eq_true q)]
      refine if_y (by omega) ?_
      rfl
    · rw [if_pos (b2i_0.mpr q), e_Co_litSet_18 xs d _ _ hb, sq_n (decide_eq_false q)]
      refine if_y (by omega) ?_
      rfl
  refine (run_to (fun i : Nat => X xs d k_Co_litSet 4 [mR b, mI ((sq (litB c) i : Nat) : Int), mI (i : Int)] [] h) st).trans ?_
  show X xs d k_Co_litSet 4 _ [] h = _
  rw [e_Co_litSet_4 xs d _ _ hb, k.n]
  refine if_n (by omega) ?_
  rfl
end
/-! sums -/
def sumN (f : Nat → Int) : Nat → Int
  | 0 => 0
  | k + 1 => sumN f k + f k
theorem sumN_congr {f g : Nat → Int} : ∀ {k : Nat}, (∀ i, i < k → f i = g i) → sumN f k = sumN g k
  | 0, _ => rfl
  | k + 1, h => by rw [sumN, sumN, sumN_congr (k := k) (fun i hi => h i (by omega)), h k (by omega)]
theorem sumN_bd {f : Nat → Int} {B : Int} : ∀ {k : Nat}, (∀ i, i < k → 0 ≤ f i ∧ f i ≤ B) → 0 ≤ sumN f k ∧ sumN f k ≤ B * k
  | 0, _ => by simp [sumN]
  | k + 1, h => by
    have a := sumN_bd (k := k) (fun i hi => h i (by omega))
    have b := h k (by omega)
    rw [sumN, Int.natCast_add, Int.mul_add]
    omega
section
variable {xs : List Int} {d : Nat} {b : Nat} {c : Kc} {h : mM}
theorem t_hasWhom (k : CoT 12 c h) (w : WfC c) {p : Int} (hp : 0 ≤ p ∧ p < c 0 0) : C xs d 232 0 [mR 12, mI p] h = some ([mI (b2i (c 7 p ≠ -1))], h) := by
  have hn := w.1
  rw [c_Co_hasWhom xs d (Or.inl rfl), k.q p hp.1 hp.2]
  refine if_y (by omega) ?_
  by_cases q : c 7 p = -1
  · rw [if_pos q, b2i_n (fun z => z q)]
  · rw [if_neg q, b2i_y q]
theorem t_toastingSet (k : CoT 12 c h) (w : WfC c) : C xs d 237 0 [mR 12] h = some ([mI ((sq (whoB c) (c 0 0).toNat : Nat) : Int)], h) := by
  have hn := w.1
  have kn : h 12 0 = c 0 0 := k.n
  rw [c_Co_toastingSet xs d]
  have st : ∀ i : Nat, i < (c 0 0).toNat → X xs d k_Co_toastingSet 4 [mR 12, mI ((sq (whoB c) i : Nat) : Int), mI (i : Int)] [] h = X xs d k_Co_toastingSet 4 [mR 12, mI ((sq (whoB c) (i + 1) : Nat) : Int), mI ((i + 1 : Nat) : Int)] [] h := by
    intro i hi
    rw [e_Co_toastingSet_4 xs d, kn]
    refine if_y (by omega) ?_
    refine cI_of (t_hasWhom k w (by omega)) ?_
    by_cases q : c 7 (i : Int) = -1
    · rw [if_pos (b2i_0.mpr (fun z => z q)), e_Co_toastingSet_18 xs d, sq_n (decide_eq_false (fun z => z q))]
      refine if_y (by omega) ?_
      rfl
    · rw [if_neg (fun z => b2i_0.mp z q), e_Co_toastingSet_18 xs d, sq_or (by omega), sq_y (decide_eq_true q)]
      refine if_y (by omega) ?_
      rfl
  refine (run_to (fun i : Nat => X xs d k_Co_toastingSet 4 [mR 12, mI ((sq (whoB c) i : Nat) : Int), mI (i : Int)] [] h) st).trans ?_
  show X xs d k_Co_toastingSet 4 _ [] h = _
  rw [e_Co_toastingSet_4 xs d, kn]
  refine if_n (by omega) ?_
  rfl
theorem t_warmersOf (k : CoT 12 c h) (w : WfC c) (t : Int) : C xs d 238 0 [mR 12, mI t] h = some ([mI ((sq (warB c t) (c 0 0).toNat : Nat) : Int)], h) := by
  have hn := w.1
  have kn : h 12 0 = c 0 0 := k.n
  rw [c_Co_warmersOf xs d]
  have st : ∀ i : Nat, i < (c 0 0).toNat → X xs d k_Co_warmersOf 4 [mR 12, mI t, mI ((sq (warB c t) i : Nat) : Int), mI (i : Int)] [] h = X xs d k_Co_warmersOf 4 [mR 12, mI t, mI ((sq (warB c t) (i + 1) : Nat) : Int), mI ((i + 1 : Nat) : Int)] [] h := by
    intro i hi
    have kq : h 18 (i : Int) = c 7 (i : Int) := k.q i (by omega) (by omega)
    rw [e_Co_warmersOf_4 xs d, kn, kq]
    refine if_y (by omega) ?_
    refine if_y (by omega) ?_
    by_cases q : c 7 (i : Int) = t
    · rw [if_pos q, e_Co_warmersOf_20 xs d, sq_or (by omega), sq_y (decide_eq_true q)]
      refine if_y (by omega) ?_
      rfl
    · rw [if_neg q, e_Co_warmersOf_20 xs d, sq_n (decide_eq_false q)]
      refine if_y (by omega) ?_
      rfl
  refine (run_to (fun i : Nat => X xs d k_Co_warmersOf 4 [mR 12, mI t, mI ((sq (warB c t) i : Nat) : Int), mI (i : Int)] [] h) st).trans ?_
  show X xs d k_Co_warmersOf 4 _ [] h = _
  rw [e_Co_warmersOf_4 xs d, kn]
  refine if_n (by omega) ?_
  rfl
theorem wsum_bd (w : WfC c) {i : Nat} (hi : i ≤ (c 0 0).toNat) : 0 ≤ sumN (fun p => c 5 (p : Int)) i ∧ sumN (fun p => c 5 (p : Int)) i ≤ 99 * i := sumN_bd (fun j hj => (w.2.2.2.2.2.2.2.2 j (by omega) (by omega)).2.2.1)
theorem lsum_bd (w : WfC c) {i : Nat} (hi : i ≤ (c 0 0).toNat) : 0 ≤ sumN (fun p => c 6 (p : Int)) i ∧ sumN (fun p => c 6 (p : Int)) i ≤ 9 * i := sumN_bd (fun j hj => (w.2.2.2.2.2.2.2.2 j (by omega) (by omega)).2.2.2.1)
theorem t_allWarmth (hb : b = 12 ∨ b = 21) (k : CoT b c h) (w : WfC c) : C xs d 239 0 [mR b] h = some ([mI (sumN (fun p => c 5 (p : Int)) (c 0 0).toNat)], h) := by
  have hn := w.1
  rw [c_Co_allWarmth xs d hb]
  have st : ∀ i : Nat, i < (c 0 0).toNat → X xs d k_Co_allWarmth 4 [mR b, mI (sumN (fun p => c 5 (p : Int)) i), mI (i : Int)] [] h = X xs d k_Co_allWarmth 4 [mR b, mI (sumN (fun p => c 5 (p : Int)) (i + 1)), mI ((i + 1 : Nat) : Int)] [] h := by
    intro i hi
    have bd := wsum_bd w (i := i) (by omega)
    have b2 := (w.2.2.2.2.2.2.2.2 i (by omega) (by omega)).2.2.1
    rw [e_Co_allWarmth_4 xs d _ _ hb, k.n, k.w i (by omega) (by omega)]
    refine if_y (by omega) ?_
    refine if_y (by omega) ?_
    refine if_y (by omega) ?_
    refine if_y (by omega) ?_
    rfl
  refine (run_to (fun i : Nat => X xs d k_Co_allWarmth 4 [mR b, mI (sumN (fun p => c 5 (p : Int)) i), mI (i : Int)] [] h) st).trans ?_
  show X xs d k_Co_allWarmth 4 _ [] h = _
  rw [e_Co_allWarmth_4 xs d _ _ hb, k.n]
  refine if_n (by omega) ?_
  rfl
theorem t_allGlasses (k : CoT 12 c h) (w : WfC c) : C xs d 240 0 [mR 12] h = some ([mI (sumN (fun p => c 6 (p : Int)) (c 0 0).toNat)], h) := by
  have hn := w.1
  have kn : h 12 0 = c 0 0 := k.n
  rw [c_Co_allGlasses xs d]
  have st : ∀ i : Nat, i < (c 0 0).toNat → X xs d k_Co_allGlasses 4 [mR 12, mI (sumN (fun p => c 6 (p : Int)) i), mI (i : Int)] [] h = X xs d k_Co_allGlasses 4 [mR 12, mI (sumN (fun p => c 6 (p : Int)) (i + 1)), mI ((i + 1 : Nat) : Int)] [] h := by
    intro i hi
    have bd := lsum_bd w (i := i) (by omega)
    have b2 := (w.2.2.2.2.2.2.2.2 i (by omega) (by omega)).2.2.2.1
    have kl : h 17 (i : Int) = c 6 (i : Int) := k.l i (by omega) (by omega)
    rw [e_Co_allGlasses_4 xs d, kn, kl]
    refine if_y (by omega) ?_
    refine if_y (by omega) ?_
    refine if_y (by omega) ?_
    refine if_y (by omega) ?_
    rfl
  refine (run_to (fun i : Nat => X xs d k_Co_allGlasses 4 [mR 12, mI (sumN (fun p => c 6 (p : Int)) i), mI (i : Int)] [] h) st).trans ?_
  show X xs d k_Co_allGlasses 4 _ [] h = _
  rw [e_Co_allGlasses_4 xs d, kn]
  refine if_n (by omega) ?_
  rfl
theorem t_canDrink (hb : b = 116 ∨ b = 12 ∨ b = 21) (k : CoT b c h) (w : WfC c) {p : Int} (hp : 0 ≤ p ∧ p < c 0 0) : C xs d 242 0 [mR b, mI p] h = some ([mI (b2i (c 7 p ≠ -1 ∧ c 6 p ≠ 0))], h) := by
  have hn := w.1
  obtain ⟨a1, a2, a3, a4, a5⟩ := w.2.2.2.2.2.2.2.2 p hp.1 hp.2
  rw [c_Co_canDrink xs d hb, k.q p hp.1 hp.2]
  refine if_y (by omega) ?_
  refine cI_of (t_has hb _) ?_
  rw [k.n, k.l p hp.1 hp.2]
  by_cases q : c 7 p = -1
  · rw [if_pos (b2i_0.mpr (by omega)), b2i_n (fun z => z.1 q)]
  · rw [if_neg (fun z => b2i_0.mp z (by omega))]
    refine if_y (by omega) ?_
    by_cases q2 : c 6 p = 0
    · refine if_n (by omega) ?_
      rw [b2i_n (fun z => z.2 q2)]
    · refine if_y (by omega) ?_
      rw [b2i_y ⟨q, q2⟩]
/-- behind one drink -/
def drC (c : Kc) (p : Int) : Kc := fun f i => if f = 6 ∧ i = p then c 6 p - 1 else if f = 5 ∧ i = c 7 p then min 99 (c 5 (c 7 p) + warmI c p) else c f i
theorem t_letDrink (hb : b = 116 ∨ b = 12 ∨ b = 21) (k : CoT b c h) (w : WfC c) {p : Int} (hp : 0 ≤ p ∧ p < c 0 0) (hq : c 7 p ≠ -1) (hl : c 6 p ≠ 0) : C xs d 243 0 [mR b, mI p] h = some ([mI (min 99 (c 5 (c 7 p) + warmI c p))], upM (upM h (b + 5) p (c 6 p - 1)) (b + 4) (c 7 p) (min 99 (c 5 (c 7 p) + warmI c p))) := by
  have hn := w.1
  obtain ⟨a1, a2, a3, a4, a5⟩ := w.2.2.2.2.2.2.2.2 p hp.1 hp.2
  obtain ⟨b1, b2, b3, b4, b5⟩ := w.2.2.2.2.2.2.2.2 (c 7 p) (by omega) (by omega)
  have hw := warmI_bd w hp hq
  rw [c_Co_letDrink xs d hb, k.q p hp.1 hp.2, k.r 5 (by omega) (by omega), k.m p hp.1 hp.2]
  refine if_y (by omega) ?_
  refine if_y (by omega) ?_
  refine cI_of (t_apart hb k w hp (by omega)) ?_
  rw [k.r 6 (by omega) (by omega)]
  refine cI_of (t_warmBy ⟨by have := w.2.2.2.2.2.2.1; omega, w.2.2.2.2.2.2.1.2⟩ a2 (by have := farI_bd a1 b1; omega) w.2.2.2.2.2.2.2.1.1) ?_
  rw [k.l p hp.1 hp.2, k.w (c 7 p) (by omega) (by omega)]
  change _ = some ([mI (min 99 (c 5 (c 7 p) + wmI (c 2 5) (c 4 p) (farI (c 3 p) (c 3 (c 7 p))) (c 2 6)))], upM (upM h (b + 5) p (c 6 p - 1)) (b + 4) (c 7 p) (min 99 (c 5 (c 7 p) + wmI (c 2 5) (c 4 p) (farI (c 3 p) (c 3 (c 7 p))) (c 2 6))))
  unfold warmI at hw
  refine if_y (by omega) ?_
  refine if_y (by omega) ?_
  refine if_y (by omega) ?_
  refine if_y (by omega) ?_
  refine if_y (by omega) ?_
  refine if_y (by omega) ?_
  refine if_y (by omega) ?_
  rw [up_eq]
theorem drC_0 {p : Int} : drC c p 0 0 = c 0 0 := by unfold drC; rw [if_neg (by omega), if_neg (by omega)]
theorem drC_T (k : CoT b c h) {p : Int} : CoT b (drC c p) (upM (upM h (b + 5) p (c 6 p - 1)) (b + 4) (c 7 p) (min 99 (c 5 (c 7 p) + warmI c p))) := by
  unfold CoT
  rw [drC_0]
  refine ⟨?_, ?_, fun i h1 h2 => ?_, fun i h1 h2 => ?_, fun i h1 h2 => ?_, fun i h1 h2 => ?_, fun i h1 h2 => ?_, fun i h1 h2 => ?_⟩
  · rw [up_ne (by omega), up_ne (by omega)]; exact k.n
  · rw [up_ne (by omega), up_ne (by omega), k.g]; unfold drC; rw [if_neg (by omega), if_neg (by omega)]
  · rw [up_ne (by omega), up_ne (by omega), k.r i h1 h2]; unfold drC; rw [if_neg (by omega), if_neg (by omega)]
  · rw [up_ne (by omega), up_ne (by omega), k.p i h1 h2]; unfold drC; rw [if_neg (by omega), if_neg (by omega)]
  · rw [up_ne (by omega), up_ne (by omega), k.m i h1 h2]; unfold drC; rw [if_neg (by omega), if_neg (by omega)]
  · rw [up_at, up_ne (by omega), k.w i h1 h2]; unfold drC
    by_cases e : i = c 7 p
    · rw [if_pos e, if_neg (by omega), if_pos ⟨rfl, e⟩]
    · rw [if_neg e, if_neg (by omega), if_neg (fun z => e z.2)]
  · rw [up_ne (by omega), up_at, k.l i h1 h2]; unfold drC
    by_cases e : i = p
    · rw [if_pos e, if_pos ⟨rfl, e⟩]
    · rw [if_neg e, if_neg (fun z => e z.2), if_neg (by omega)]
  · rw [up_ne (by omega), up_ne (by omega), k.q i h1 h2]; unfold drC; rw [if_neg (by omega), if_neg (by omega)]
theorem drC_wf (w : WfC c) {p : Int} (hp : 0 ≤ p ∧ p < c 0 0) (hq : c 7 p ≠ -1) (hl : c 6 p ≠ 0) : WfC (drC c p) := by
  obtain ⟨hn, hg, r1, r2, r3, r4, r5, r6, hw⟩ := w
  have e0 : ∀ f i, f ≠ 5 → f ≠ 6 → drC c p f i = c f i := fun f i h5 h6 => by unfold drC; rw [if_neg (fun z => h6 z.1), if_neg (fun z => h5 z.1)]
  have ww := warmI_bd ⟨hn, hg, r1, r2, r3, r4, r5, r6, hw⟩ hp hq
  unfold WfC WfP
  simp only [e0 0 _ (by omega) (by omega), e0 1 _ (by omega) (by omega), e0 2 _ (by omega) (by omega), e0 3 _ (by omega) (by omega), e0 4 _ (by omega) (by omega), e0 7 _ (by omega) (by omega)]
  refine ⟨hn, hg, r1, r2, r3, r4, r5, r6, fun i h1 h2 => ?_⟩
  obtain ⟨a1, a2, a3, a4, a5⟩ := hw i h1 h2
  obtain ⟨b1, b2, b3, b4, b5⟩ := hw p hp.1 hp.2
  obtain ⟨-, -, d3, -⟩ := hw (c 7 p) (by omega) (by omega)
  refine ⟨a1, a2, ?_, ?_, a5⟩
  · unfold drC
    rw [if_neg (by omega)]
    by_cases e : i = c 7 p
    · rw [if_pos ⟨rfl, e⟩]; omega
    · rw [if_neg (fun z => e z.2)]; exact a3
  · unfold drC
    by_cases e : i = p
    · rw [if_pos ⟨rfl, e⟩]; omega
    · rw [if_neg (fun z => e z.2), if_neg (by omega)]; exact a4
end
/-! nights -/
def ntC (c : Kc) (k : Int) : Kc := fun f i => if f = 5 then max 0 (c 5 i - k * c 2 4) else if f = 1 then c 1 i + k else c f i
section
variable {xs : List Int} {d : Nat} {b : Nat} {c : Kc} {h : mM}
theorem t_hasNights (hb : b = 12 ∨ b = 21) (k : CoT b c h) (w : WfC c) {n : Int} (h1 : 0 ≤ n ∧ n ≤ 1000) : C xs d 244 0 [mR b, mI n] h = some ([mI (b2i (c 1 0 + n ≤ 9999))], h) := by
  have hn := w.1
  have hg := w.2.1
  rw [c_Co_hasNights xs d hb, k.g]
  refine if_y (by omega) ?_
  by_cases q : 9999 < c 1 0 + n
  · refine if_y (by omega) ?_
    rw [b2i_n (by omega)]
  · refine if_n (by omega) ?_
    rw [b2i_y (by omega)]
theorem t_warmthIn (hb : b = 116 ∨ b = 12 ∨ b = 21) (k : CoT b c h) (w : WfC c) {p n : Int} (hp : 0 ≤ p ∧ p < c 0 0) (h1 : 0 ≤ n ∧ n ≤ 1000) : C xs d 245 0 [mR b, mI p, mI n] h = some ([mI (max 0 (c 5 p - n * c 2 4))], h) := by
  have hn := w.1
  have a3 := (w.2.2.2.2.2.2.2.2 p hp.1 hp.2).2.2.1
  have mb := mul_bd h1.1 h1.2 w.2.2.2.2.2.1.1 w.2.2.2.2.2.1.2
  rw [c_Co_warmthIn xs d hb, k.r 4 (by omega) (by omega), k.w p hp.1 hp.2]
  refine if_y (by omega) ?_
  refine if_y (by omega) ?_
  refine if_y (by omega) ?_
  rfl
def ntM (h : mM) (b : Nat) (c : Kc) (n : Int) : mM := rowU (upM h b 1 (c 1 0 + n)) (b + 4) (c 0 0) (fun i => max 0 (c 5 i - n * c 2 4))
theorem CoT.mv {h' : mM} (k : CoT b c h) (e : ∀ a, b ≤ a → a ≤ b + 6 → h' a = h a) : CoT b c h' := by
  unfold CoT
  rw [e b (by omega) (by omega), e (b + 1) (by omega) (by omega), e (b + 2) (by omega) (by omega), e (b + 3) (by omega) (by omega), e (b + 4) (by omega) (by omega), e (b + 5) (by omega) (by omega), e (b + 6) (by omega) (by omega)]
  exact k
theorem t_passNights (hb : b = 12 ∨ b = 21) (k : CoT b c h) (w : WfC c) {n : Int} (h1 : 0 ≤ n ∧ n ≤ 1000) : C xs d 246 0 [mR b, mI n] h = some ([], ntM h b c n) := by
  have hn := w.1
  have hg := w.2.1
  rw [c_Co_passNights xs d hb, k.g]
  refine if_y (by omega) ?_
  have kk : ∀ i : Nat, (∀ j : Int, (i : Int) ≤ j → j < c 0 0 → (rowU (upM h b 1 (c 1 0 + n)) (b + 4) i (fun i => max 0 (c 5 i - n * c 2 4))) (b + 4) j = c 5 j) ∧ (∀ a j, a ≠ b + 4 → (a ≠ b ∨ j ≠ 1) → (rowU (upM h b 1 (c 1 0 + n)) (b + 4) i (fun i => max 0 (c 5 i - n * c 2 4))) a j = h a j) := by
    intro i
    refine ⟨fun j h1 h2 => ?_, fun a j h1 h2 => ?_⟩
    · rw [rowU_out (by omega), up_ne (by omega), k.w j (by omega) h2]
    · rw [rowU_ne h1]
      unfold upM
      rw [if_neg (by omega)]
  have st : ∀ i : Nat, i < (c 0 0).toNat → X xs d k_Co_passNights 8 [mR b, mI n, mI (i : Int)] [] (rowU (upM h b 1 (c 1 0 + n)) (b + 4) i (fun i => max 0 (c 5 i - n * c 2 4))) = X xs d k_Co_passNights 8 [mR b, mI n, mI ((i + 1 : Nat) : Int)] [] (rowU (upM h b 1 (c 1 0 + n)) (b + 4) ((i + 1 : Nat) : Int) (fun i => max 0 (c 5 i - n * c 2 4))) := by
    intro i hi
    obtain ⟨k1, k2⟩ := kk i
    have a3 := (w.2.2.2.2.2.2.2.2 i (by omega) (by omega)).2.2.1
    have mb := mul_bd h1.1 h1.2 w.2.2.2.2.2.1.1 w.2.2.2.2.2.1.2
    rw [e_Co_passNights_8 xs d _ _ hb, k2 b 0 (by omega) (by omega), k.n]
    refine if_y (by omega) ?_
    refine cI_of (v := max 0 (c 5 (i : Int) - n * c 2 4)) (h := rowU (upM h b 1 (c 1 0 + n)) (b + 4) i (fun i => max 0 (c 5 i - n * c 2 4))) ?_ ?_
    · rw [c_Co_warmthIn xs d (by omega), k2 (b + 1) 4 (by omega) (by omega), k1 i (by omega) (by omega), k.r 4 (by omega) (by omega)]
      refine if_y (by omega) ?_
      refine if_y (by omega) ?_
      refine if_y (by omega) ?_
      rfl
    · refine if_y (by omega) ?_
      refine if_y (by omega) ?_
      rw [rowU_up (by omega) rfl]
      rfl
  refine (congrArg (fun g => X xs d k_Co_passNights 8 [mR b, mI n, mI 0] [] g) (rowU_0 (h := upM h b 1 (c 1 0 + n)) (a := b + 4) (f := fun i => max 0 (c 5 i - n * c 2 4))).symm).trans ?_
  refine (run_to (fun i : Nat => X xs d k_Co_passNights 8 [mR b, mI n, mI (i : Int)] [] (rowU (upM h b 1 (c 1 0 + n)) (b + 4) i (fun i => max 0 (c 5 i - n * c 2 4)))) st).trans ?_
  show X xs d k_Co_passNights 8 _ [] _ = _
  rw [e_Co_passNights_8 xs d _ _ hb, (kk _).2 b 0 (by omega) (by omega), k.n]
  refine if_n (by omega) ?_
  rw [show (((c 0 0).toNat : Nat) : Int) = c 0 0 by omega]
  rfl
theorem ntC_T (k : CoT b c h) {n : Int} : CoT b (ntC c n) (ntM h b c n) := by
  unfold CoT ntM
  have e0 : ntC c n 0 0 = c 0 0 := by unfold ntC; rw [if_neg (by omega), if_neg (by omega)]
  have e : ∀ f i, f ≠ 5 → f ≠ 1 → ntC c n f i = c f i := fun f i h5 h6 => by unfold ntC; rw [if_neg h5, if_neg h6]
  rw [e0]
  refine ⟨?_, ?_, fun i h1 h2 => ?_, fun i h1 h2 => ?_, fun i h1 h2 => ?_, fun i h1 h2 => ?_, fun i h1 h2 => ?_, fun i h1 h2 => ?_⟩
  · rw [rowU_ne (by omega), up_at, if_neg (by omega)]; exact k.n
  · rw [rowU_ne (by omega), up_at, if_pos rfl]; rfl
  · rw [rowU_ne (by omega), up_ne (by omega), k.r i h1 h2, e 2 i (by omega) (by omega)]
  · rw [rowU_ne (by omega), up_ne (by omega), k.p i h1 h2, e 3 i (by omega) (by omega)]
  · rw [rowU_ne (by omega), up_ne (by omega), k.m i h1 h2, e 4 i (by omega) (by omega)]
  · rw [rowU_in ⟨h1, h2⟩]; rfl
  · rw [rowU_ne (by omega), up_ne (by omega), k.l i h1 h2, e 6 i (by omega) (by omega)]
  · rw [rowU_ne (by omega), up_ne (by omega), k.q i h1 h2, e 7 i (by omega) (by omega)]
theorem ntC_wf (w : WfC c) {n : Int} (h1 : 0 ≤ n) (h2 : c 1 0 + n ≤ 20000) : WfC (ntC c n) := by
  obtain ⟨hn, hg, r1, r2, r3, r4, r5, r6, hw⟩ := w
  have e : ∀ f i, f ≠ 5 → f ≠ 1 → ntC c n f i = c f i := fun f i h5 h6 => by unfold ntC; rw [if_neg h5, if_neg h6]
  unfold WfC WfP
  simp only [e 0 _ (by omega) (by omega), e 2 _ (by omega) (by omega), e 3 _ (by omega) (by omega), e 4 _ (by omega) (by omega), e 6 _ (by omega) (by omega), e 7 _ (by omega) (by omega)]
  refine ⟨hn, ?_, r1, r2, r3, r4, r5, r6, fun i h1 h2 => ?_⟩
  · show 0 ≤ c 1 0 + n ∧ c 1 0 + n ≤ 20000
    omega
  · obtain ⟨a1, a2, a3, a4, a5⟩ := hw i h1 h2
    refine ⟨a1, a2, ?_, a4, a5⟩
    show 0 ≤ max 0 (c 5 i - n * c 2 4) ∧ max 0 (c 5 i - n * c 2 4) ≤ 99
    have := Int.mul_nonneg ‹0 ≤ n› r4.1
    omega
end
/-! evenings -/
/-- what comes to one from the first so many -/
def comN (c : Kc) (aw t : Int) : Nat → Int := sumN (fun p => if (p : Int) ≠ aw ∧ c 2 3 ≤ c 5 (p : Int) ∧ c 7 (p : Int) ≠ -1 ∧ c 7 (p : Int) = t then warmI c (p : Int) else 0)
def evC (c : Kc) (aw : Int) : Kc := ntC (fun f i => if f = 5 then min 99 (c 5 i + comN c aw i (c 0 0).toNat) else c f i) 1
def evB (c : Kc) (aw : Int) : Nat → Bool := fun p => decide ((p : Int) ≠ aw ∧ c 2 3 ≤ c 5 (p : Int) ∧ c 7 (p : Int) ≠ -1)
theorem comN_bd {c : Kc} (w : WfC c) {aw t : Int} {i : Nat} (hi : i ≤ (c 0 0).toNat) : 0 ≤ comN c aw t i ∧ comN c aw t i ≤ 180 * i := by
  refine sumN_bd (fun p hp => ?_)
  split
  · next q => exact warmI_bd w (by omega) q.2.2.1
  · omega
section
variable {xs : List Int} {d : Nat} {b : Nat} {c : Kc} {h : mM}
theorem t_passEvening (hb : b = 12 ∨ b = 21) (k : CoT b c h) (w : WfC c) (hg : c 1 0 ≤ 19000) (aw : Int) (haw : inI aw) : ∃ h', C xs d 247 0 [mR b, mI aw] h = some ([mI ((sq (evB c aw) (c 0 0).toNat : Nat) : Int)], h') ∧ CoT b (evC c aw) h' ∧ Ow [b, b + 4, b + 8] h h' := by
  have hn := w.1
  rw [c_Co_passEvening xs d hb]
  -- all sums are 0
  have st1 : ∀ i : Nat, i < (c 0 0).toNat → X xs d k_Co_passEvening 2 [mR b, mI aw, mI (i : Int), mC 0] [] (rowU h (b + 8) i (fun _ => 0)) = X xs d k_Co_passEvening 2 [mR b, mI aw, mI ((i + 1 : Nat) : Int), mC 0] [] (rowU h (b + 8) ((i + 1 : Nat) : Int) (fun _ => 0)) := by
    intro i hi
    rw [e_Co_passEvening_2 xs d _ _ hb, rowU_ne (show b ≠ b + 8 by omega), k.n]
    refine if_y (by omega) ?_
    refine if_y (by omega) ?_
    refine if_y (by omega) ?_
    rw [rowU_up (by omega) rfl]
    rfl
  have r1 := run_to (fun i : Nat => X xs d k_Co_passEvening 2 [mR b, mI aw, mI (i : Int), mC 0] [] (rowU h (b + 8) i (fun _ => 0))) st1
  have r1 : X xs d k_Co_passEvening 2 [mR b, mI aw, mI 0, mC 0] [] (rowU h (b + 8) 0 (fun _ => 0)) = X xs d k_Co_passEvening 2 [mR b, mI aw, mI ((c 0 0).toNat : Int), mC 0] [] (rowU h (b + 8) ((c 0 0).toNat : Int) (fun _ => 0)) := r1
  rw [rowU_0] at r1
  rw [r1, show (((c 0 0).toNat : Nat) : Int) = c 0 0 by omega]
  rw [e_Co_passEvening_2 xs d _ _ hb, rowU_ne (show b ≠ b + 8 by omega), k.n, if_neg (by omega)]
  -- those who are lit warm
  have z0 : rowU h (b + 8) (c 0 0) (fun _ => 0) = rowU h (b + 8) (c 0 0) (fun t => comN c aw t 0) := rfl
  rw [z0]
  have kk : ∀ i : Nat, CoT b c (rowU h (b + 8) (c 0 0) (fun t => comN c aw t i)) := fun i => k.mv (fun a h1 h2 => rowU_ne (by omega))
  have st2 : ∀ i : Nat, i < (c 0 0).toNat → X xs d k_Co_passEvening 17 [mR b, mI aw, mI ((sq (evB c aw) i : Nat) : Int), mI (i : Int)] [] (rowU h (b + 8) (c 0 0) (fun t => comN c aw t i)) = X xs d k_Co_passEvening 17 [mR b, mI aw, mI ((sq (evB c aw) (i + 1) : Nat) : Int), mI ((i + 1 : Nat) : Int)] [] (rowU h (b + 8) (c 0 0) (fun t => comN c aw t (i + 1))) := by
    intro i hi
    have hp : 0 ≤ (i : Int) ∧ (i : Int) < c 0 0 := by omega
    obtain ⟨a1, a2, a3, a4, a5⟩ := w.2.2.2.2.2.2.2.2 i hp.1 hp.2
    rw [e_Co_passEvening_17 xs d _ _ _ hb, (kk i).n]
    refine if_y (by omega) ?_
    have skip : ¬ ((i : Int) ≠ aw ∧ c 2 3 ≤ c 5 (i : Int) ∧ c 7 (i : Int) ≠ -1) → X xs d k_Co_passEvening 54 [mR b, mI aw, mI ((sq (evB c aw) i : Nat) : Int), mI (i : Int)] [] (rowU h (b + 8) (c 0 0) (fun t => comN c aw t i)) = X xs d k_Co_passEvening 17 [mR b, mI aw, mI ((sq (evB c aw) (i + 1) : Nat) : Int), mI ((i + 1 : Nat) : Int)] [] (rowU h (b + 8) (c 0 0) (fun t => comN c aw t (i + 1))) := by
      intro q
      rw [e_Co_passEvening_54 xs d _ _ _ hb, sq_n (decide_eq_false q)]
      refine if_y (by omega) ?_
      have e : (fun t => comN c aw t (i + 1)) = (fun t => comN c aw t i) := by
        funext t
        show comN c aw t i + (if _ then _ else _) = _
        rw [if_neg (fun z => q ⟨z.1, z.2.1, z.2.2.1⟩), Int.add_zero]
      rw [e]
      rfl
    by_cases q1 : (i : Int) = aw
    · rw [if_pos q1]
      exact skip (fun z => z.1 q1)
    rw [if_neg q1]
    refine cI_of (t_isLit (by omega) (kk i) w hp) ?_
    by_cases q2 : c 2 3 ≤ c 5 (i : Int)
    rotate_left
    · rw [if_pos (b2i_0.mpr q2)]
      exact skip (fun z => q2 z.2.1)
    rw [if_neg (fun z => b2i_0.mp z q2), (kk i).q i hp.1 hp.2]
    refine if_y (by omega) ?_
    refine cI_of (t_has (by omega) _) ?_
    rw [(kk i).n]
    by_cases q3 : c 7 (i : Int) = -1
    · rw [if_pos (b2i_0.mpr (by omega))]
      exact skip (fun z => z.2.2 q3)
    have hq : 0 ≤ c 7 (i : Int) ∧ c 7 (i : Int) < c 0 0 := by omega
    rw [if_neg (fun z => b2i_0.mp z hq), (kk i).q i hp.1 hp.2]
    refine if_y (by omega) ?_
    refine if_y (by omega) ?_
    refine cI_of (t_warmOf hb (kk i) w hp) ?_
    rw [if_neg q3]
    have cb := comN_bd w (aw := aw) (t := c 7 (i : Int)) (i := i) (by omega)
    have wb := warmI_bd w hp q3
    rw [rowU_in hq]
    refine if_y (by omega) ?_
    refine if_y (by omega) ?_
    rw [e_Co_passEvening_54 xs d _ _ _ hb, sq_or (by omega), sq_y (decide_eq_true ⟨q1, q2, q3⟩)]
    refine if_y (by omega) ?_
    have e : upM (rowU h (b + 8) (c 0 0) (fun t => comN c aw t i)) (b + 8) (c 7 (i : Int)) (comN c aw (c 7 (i : Int)) i + warmI c (i : Int)) = rowU h (b + 8) (c 0 0) (fun t => comN c aw t (i + 1)) := by
      funext a j
      by_cases e1 : a = b + 8
      · subst e1
        rw [up_at]
        by_cases e2 : j = c 7 (i : Int)
        · rw [if_pos e2, rowU_in (by omega), e2]
          show _ = comN c aw (c 7 (i : Int)) i + (if _ then _ else _)
          rw [if_pos ⟨q1, q2, q3, rfl⟩]
        · rw [if_neg e2]
          by_cases e3 : 0 ≤ j ∧ j < c 0 0
          · rw [rowU_in e3, rowU_in e3]
            show _ = comN c aw j i + (if _ then _ else _)
            rw [if_neg (fun z => e2 z.2.2.2.symm), Int.add_zero]
          · rw [rowU_out e3, rowU_out e3]
      · rw [up_ne e1, rowU_ne e1, rowU_ne e1]
    rw [e]
    rfl
  have r2 := run_to (fun i : Nat => X xs d k_Co_passEvening 17 [mR b, mI aw, mI ((sq (evB c aw) i : Nat) : Int), mI (i : Int)] [] (rowU h (b + 8) (c 0 0) (fun t => comN c aw t i))) st2
  have r2 : X xs d k_Co_passEvening 17 [mR b, mI aw, mI 0, mI 0] [] (rowU h (b + 8) (c 0 0) (fun t => comN c aw t 0)) = X xs d k_Co_passEvening 17 [mR b, mI aw, mI ((sq (evB c aw) (c 0 0).toNat : Nat) : Int), mI ((c 0 0).toNat : Int)] [] (rowU h (b + 8) (c 0 0) (fun t => comN c aw t (c 0 0).toNat)) := r2
  rw [r2, e_Co_passEvening_17 xs d _ _ _ hb, (kk _).n, if_neg (by omega)]
  -- warmth comes
  generalize hF : rowU h (b + 8) (c 0 0) (fun t => comN c aw t (c 0 0).toNat) = F
  have kF : CoT b c F := by rw [← hF]; exact kk _
  have sF : ∀ t, 0 ≤ t → t < c 0 0 → F (b + 8) t = comN c aw t (c 0 0).toNat := fun t h1 h2 => by rw [← hF, rowU_in ⟨h1, h2⟩]
  have oF : Ow [b, b + 4, b + 8] h F := by rw [← hF]; exact Ow.rf.row (by simp)
  have st3 : ∀ i : Nat, i < (c 0 0).toNat → X xs d k_Co_passEvening 58 [mR b, mI aw, mI ((sq (evB c aw) (c 0 0).toNat : Nat) : Int), mI (i : Int)] [] (rowU F (b + 4) i (fun t => min 99 (c 5 t + comN c aw t (c 0 0).toNat))) = X xs d k_Co_passEvening 58 [mR b, mI aw, mI ((sq (evB c aw) (c 0 0).toNat : Nat) : Int), mI ((i + 1 : Nat) : Int)] [] (rowU F (b + 4) ((i + 1 : Nat) : Int) (fun t => min 99 (c 5 t + comN c aw t (c 0 0).toNat))) := by
    intro i hi
    have a3 := (w.2.2.2.2.2.2.2.2 i (by omega) (by omega)).2.2.1
    have cb := comN_bd w (aw := aw) (t := (i : Int)) (i := (c 0 0).toNat) (Nat.le_refl _)
    rw [e_Co_passEvening_58 xs d _ _ _ hb, rowU_ne (show b ≠ b + 4 by omega), kF.n, rowU_out (show ¬ (0 ≤ (i : Int) ∧ (i : Int) < (i : Int)) by omega), rowU_ne (show b + 8 ≠ b + 4 by omega), kF.w i (by omega) (by omega), sF i (by omega) (by omega)]
    refine if_y (by omega) ?_
    refine if_y (by omega) ?_
    refine if_y (by omega) ?_
    refine if_y (by omega) ?_
    refine if_y (by omega) ?_
    refine if_y (by omega) ?_
    rw [rowU_up (by omega) rfl]
    rfl
  have r3 := run_to (fun i : Nat => X xs d k_Co_passEvening 58 [mR b, mI aw, mI ((sq (evB c aw) (c 0 0).toNat : Nat) : Int), mI (i : Int)] [] (rowU F (b + 4) i (fun t => min 99 (c 5 t + comN c aw t (c 0 0).toNat)))) st3
  have r3 : X xs d k_Co_passEvening 58 [mR b, mI aw, mI ((sq (evB c aw) (c 0 0).toNat : Nat) : Int), mI 0] [] (rowU F (b + 4) 0 (fun t => min 99 (c 5 t + comN c aw t (c 0 0).toNat))) = X xs d k_Co_passEvening 58 [mR b, mI aw, mI ((sq (evB c aw) (c 0 0).toNat : Nat) : Int), mI ((c 0 0).toNat : Int)] [] (rowU F (b + 4) ((c 0 0).toNat : Int) (fun t => min 99 (c 5 t + comN c aw t (c 0 0).toNat))) := r3
  rw [rowU_0] at r3
  rw [r3, e_Co_passEvening_58 xs d _ _ _ hb, rowU_ne (show b ≠ b + 4 by omega), kF.n, if_neg (by omega), show (((c 0 0).toNat : Nat) : Int) = c 0 0 by omega]
  generalize hG : rowU F (b + 4) (c 0 0) (fun t => min 99 (c 5 t + comN c aw t (c 0 0).toNat)) = G
  have oG : Ow [b, b + 4, b + 8] h G := by rw [← hG]; exact oF.row (by simp)
  have kG : CoT b (fun f i => if f = 5 then min 99 (c 5 i + comN c aw i (c 0 0).toNat) else c f i) G := by
    rw [← hG]
    unfold CoT
    simp only [rowU_ne (show b ≠ b + 4 by omega), rowU_ne (show b + 1 ≠ b + 4 by omega), rowU_ne (show b + 2 ≠ b + 4 by omega), rowU_ne (show b + 3 ≠ b + 4 by omega), rowU_ne (show b + 5 ≠ b + 4 by omega), rowU_ne (show b + 6 ≠ b + 4 by omega)]
    exact ⟨kF.n, kF.g, kF.r, kF.p, kF.m, fun i h1 h2 => rowU_in ⟨h1, h2⟩, kF.l, kF.q⟩
  have wG : WfC (fun f i => if f = 5 then min 99 (c 5 i + comN c aw i (c 0 0).toNat) else c f i) := by
    obtain ⟨hn, hg, r1, r2, r3, r4, r5, r6, hw⟩ := w
    refine ⟨hn, hg, r1, r2, r3, r4, r5, r6, fun i h1 h2 => ?_⟩
    obtain ⟨a1, a2, a3, a4, a5⟩ := hw i h1 h2
    have cb := comN_bd ⟨hn, hg, r1, r2, r3, r4, r5, r6, hw⟩ (aw := aw) (t := i) (i := (c 0 0).toNat) (Nat.le_refl _)
    refine ⟨a1, a2, ?_, a4, a5⟩
    show 0 ≤ min 99 (c 5 i + comN c aw i (c 0 0).toNat) ∧ min 99 (c 5 i + comN c aw i (c 0 0).toNat) ≤ 99
    omega
  refine ⟨_, cV_of (t_passNights hb kG wG (n := 1) (by omega)) rfl, ntC_T kG, ?_⟩
  unfold ntM
  exact (oG.up (by simp)).row (by simp)
theorem evC_wf (w : WfC c) (hg : c 1 0 ≤ 19000) {aw : Int} : WfC (evC c aw) := by
  refine ntC_wf ?_ (by omega) (by show c 1 0 + 1 ≤ 20000; omega)
  obtain ⟨hn, hg, r1, r2, r3, r4, r5, r6, hw⟩ := w
  refine ⟨hn, hg, r1, r2, r3, r4, r5, r6, fun i h1 h2 => ?_⟩
  obtain ⟨a1, a2, a3, a4, a5⟩ := hw i h1 h2
  have cb := comN_bd ⟨hn, hg, r1, r2, r3, r4, r5, r6, hw⟩ (aw := aw) (t := i) (i := (c 0 0).toNat) (Nat.le_refl _)
  refine ⟨a1, a2, ?_, a4, a5⟩
  show 0 ≤ min 99 (c 5 i + comN c aw i (c 0 0).toNat) ∧ min 99 (c 5 i + comN c aw i (c 0 0).toNat) ≤ 99
  omega
end
