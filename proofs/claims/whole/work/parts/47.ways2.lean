/-! EQUIV 17: who warms whom, by sets: ahead, behind -/
/-- those ahead, when so many others of a set are through -/
def spN (al : Nat → Nat) (r : Nat → Int) (t : Nat) : Nat → Nat → Int
  | 0 => r
  | o + 1 => fun x => if opW al (bc t) t o ∧ x = t ||| 2 ^ o then spN al r t o x + r t else spN al r t o x
/-- those ahead, when so many sets are through -/
def aR (n : Nat) (al : Nat → Nat) : Nat → Nat → Int
  | 0 => fun x => if x = 0 then 1 else 0
  | t + 1 => spN al (aR n al t) t n
theorem sumN_add {f g : Nat → Int} : ∀ k, sumN (fun x => f x + g x) k = sumN f k + sumN g k
  | 0 => rfl
  | k + 1 => by rw [sumN_s, sumN_s, sumN_s, sumN_add k]; omega
theorem sumN_pt {a : Nat} {v : Int} : ∀ k, sumN (fun x => if x = a then v else 0) k = if a < k then v else 0
  | 0 => by rw [if_neg (by omega)]; rfl
  | k + 1 => by
    rw [sumN_s, sumN_pt k]
    by_cases e : k = a
    · subst e; rw [if_neg (by omega), if_pos rfl, if_pos (by omega)]; omega
    · rw [if_neg e]
      by_cases z : a < k
      · rw [if_pos z, if_pos (by omega)]; omega
      · rw [if_neg z, if_neg (by omega)]; omega
theorem sumN_mul {f : Nat → Int} {v : Int} : ∀ k, sumN (fun x => v * f x) k = v * sumN f k
  | 0 => by simp [sumN]
  | k + 1 => by rw [sumN_s, sumN_s, sumN_mul k, Int.mul_add]
theorem sumN_zero {f : Nat → Int} {k : Nat} (h : ∀ i, i < k → f i = 0) : sumN f k = 0 := by
  induction k with
  | zero => rfl
  | succ k ih => rw [sumN_s, ih (fun i hi => h i (by omega)), h k (by omega)]; rfl
theorem sumN_nn {f : Nat → Int} : ∀ {k : Nat}, (∀ i, i < k → 0 ≤ f i) → 0 ≤ sumN f k
  | 0, _ => Int.le_refl _
  | k + 1, h => by
    have := sumN_nn (k := k) (fun i hi => h i (by omega))
    have := h k (by omega)
    rw [sumN_s]; omega
theorem sumN_one {f : Nat → Int} {k a : Nat} (h : ∀ i, i < k → 0 ≤ f i) (ha : a < k) : f a ≤ sumN f k := by
  induction k with
  | zero => omega
  | succ k ih =>
    have := sumN_nn (k := k) (fun i hi => h i (by omega))
    have := h k (by omega)
    rw [sumN_s]
    by_cases e : a = k
    · subst e; omega
    · have := ih (fun i hi => h i (by omega)) (by omega)
      omega
theorem sumN_lim {f g : Nat → Int} {k : Nat} (h : ∀ i, i < k → f i ≤ g i) : sumN f k ≤ sumN g k := by
  induction k with
  | zero => exact Int.le_refl _
  | succ k ih =>
    have := ih (fun i hi => h i (by omega))
    have := h k (by omega)
    rw [sumN_s, sumN_s]; omega
theorem or_gt : ∀ o, o < 7 → ∀ x, x < 128 → x.testBit o = false → x < x ||| 2 ^ o := by decide +kernel
section
variable {n : Nat} {al : Nat → Nat}
theorem spN_s {r : Nat → Int} {t o x : Nat} : spN al r t (o + 1) x = if opW al (bc t) t o ∧ x = t ||| 2 ^ o then spN al r t o x + r t else spN al r t o x := rfl
theorem aR_0 {x : Nat} : aR n al 0 x = if x = 0 then 1 else 0 := rfl
theorem aR_s {t : Nat} : aR n al (t + 1) = spN al (aR n al t) t n := rfl
theorem or_n (hn : n ≤ 7) {t o : Nat} (ht : t < 2 ^ n) (ho : o < n) : t ||| 2 ^ o < 2 ^ n := or_lt ht (Nat.pow_lt_pow_right (by omega) ho)
theorem spN_nn {r : Nat → Int} (h : ∀ x, 0 ≤ r x) {t : Nat} : ∀ o x, 0 ≤ spN al r t o x
  | 0, x => h x
  | o + 1, x => by
    have := spN_nn h (t := t) o x
    have := h t
    rw [spN_s]
    split <;> omega
theorem aR_nn : ∀ t x, 0 ≤ aR n al t x
  | 0, x => by rw [aR_0]; split <;> omega
  | t + 1, x => by rw [aR_s]; exact spN_nn (aR_nn t) n x
theorem spN_own {r : Nat → Int} (hn : n ≤ 7) {t : Nat} (ht : t < 2 ^ n) : ∀ o, o ≤ n → spN al r t o t = r t
  | 0, _ => rfl
  | o + 1, ho => by
    have p7 := pow_le7 hn
    rw [spN_s, if_neg (fun z => ?_)]
    · exact spN_own hn ht o (by omega)
    · have := or_gt o (by omega) t (by omega) z.1.2
      omega
theorem spN_sum (hn : n ≤ 7) {r : Nat → Int} {t : Nat} (ht : t < 2 ^ n) (v : Nat → Int) : ∀ o, o ≤ n → sumN (fun x => spN al r t o x * v x) (2 ^ n) = sumN (fun x => r x * v x) (2 ^ n) + sumN (fun q => if opW al (bc t) t q then r t * v (t ||| 2 ^ q) else 0) o
  | 0, _ => (Int.add_zero _).symm
  | o + 1, ho => by
    have ih := spN_sum hn (r := r) ht v o (by omega)
    rw [sumN_s]
    by_cases z : opW al (bc t) t o
    · have e : ∀ x, x < 2 ^ n → spN al r t (o + 1) x * v x = spN al r t o x * v x + (if x = t ||| 2 ^ o then r t * v (t ||| 2 ^ o) else 0) := fun x hx => by
        rw [spN_s]
        by_cases y : x = t ||| 2 ^ o
        · subst y
          rw [if_pos ⟨z, rfl⟩, if_pos rfl, Int.add_mul]
        · rw [if_neg (fun w => y w.2), if_neg y, Int.add_zero]
      rw [sumN_congr e, sumN_add, ih, sumN_pt, if_pos (or_n hn ht (by omega)), if_pos z]
      omega
    · have e : ∀ x, x < 2 ^ n → spN al r t (o + 1) x * v x = spN al r t o x * v x := fun x hx => by
        rw [spN_s, if_neg (fun w => z w.1)]
      rw [sumN_congr e, ih, if_neg z]
      omega
abbrev cB (n t x : Nat) : Int := if t ≤ x then ((7 ^ (n - bc x) : Nat) : Int) else 0
theorem spB (hn : n ≤ 7) {r : Nat → Int} (hr : ∀ x, 0 ≤ r x) {t : Nat} (ht : t + 1 < 2 ^ n) {B : Int} (hB : sumN (fun x => r x * cB n t x) (2 ^ n) ≤ B) {o : Nat} (ho : o ≤ n) : sumN (fun x => spN al r t o x * cB n (t + 1) x) (2 ^ n) ≤ B := by
  have p7 := pow_le7 hn
  have bn := bc_le n hn t (by omega)
  have bl : bc t < n := by
    rcases Nat.lt_or_ge (bc t) n with z | z
    · exact z
    · have := bc_full n hn t (by omega) (by omega)
      omega
  rw [spN_sum hn (by omega) _ o ho]
  have e : ∀ x, x < 2 ^ n → r x * cB n t x = r x * cB n (t + 1) x + (if x = t then r t * ((7 ^ (n - bc t) : Nat) : Int) else 0) := fun x hx => by
    unfold cB
    by_cases y : x = t
    · subst y
      rw [if_pos (Nat.le_refl _), if_neg (by omega), if_pos rfl]
      omega
    · rw [if_neg y, Int.add_zero]
      by_cases w : t ≤ x
      · rw [if_pos w, if_pos (by omega)]
      · rw [if_neg w, if_neg (by omega)]
  rw [sumN_congr e, sumN_add, sumN_pt, if_pos (by omega)] at hB
  have rt := hr t
  have pp := p7p (n - bc t - 1)
  have b : sumN (fun q => if opW al (bc t) t q then r t * cB n (t + 1) (t ||| 2 ^ q) else 0) o ≤ 7 * (r t * ((7 ^ (n - bc t - 1) : Nat) : Int)) := by
    refine (sumB hn ho (Int.mul_nonneg rt (by omega)) (fun q hq => ?_)).2
    have nn := Int.mul_nonneg rt (show (0 : Int) ≤ ((7 ^ (n - bc t - 1) : Nat) : Int) by omega)
    by_cases z : opW al (bc t) t q
    · have g := or_gt q (by omega) t (by omega) z.2
      have b1 := bc_or q (by omega) t (by omega) z.2
      rw [if_pos z, cB, if_pos (by omega), b1, show n - (bc t + 1) = n - bc t - 1 by omega]
      exact ⟨nn, Int.le_refl _⟩
    · rw [if_neg z]
      exact ⟨Int.le_refl _, nn⟩
  have e7 : r t * ((7 ^ (n - bc t) : Nat) : Int) = 7 * (r t * ((7 ^ (n - bc t - 1) : Nat) : Int)) := by
    rw [show n - bc t = (n - bc t - 1) + 1 by omega, p7s, show n - bc t - 1 + 1 - 1 = n - bc t - 1 by omega]
    generalize ((7 ^ (n - bc t - 1) : Nat) : Int) = w
    rw [← Int.mul_assoc, ← Int.mul_assoc, Int.mul_comm (r t) 7]
  omega
theorem bc_0 : bc 0 = 0 := by decide
theorem aR_B (hn : n ≤ 7) : ∀ t, t < 2 ^ n → sumN (fun x => aR n al t x * cB n t x) (2 ^ n) ≤ ((7 ^ n : Nat) : Int)
  | 0, ht => by
    have e : ∀ x, x < 2 ^ n → aR n al 0 x * cB n 0 x = if x = 0 then ((7 ^ n : Nat) : Int) else 0 := fun x hx => by
      rw [aR_0, cB, if_pos (Nat.zero_le _)]
      by_cases z : x = 0
      · subst z
        rw [if_pos rfl, if_pos rfl, bc_0, Int.one_mul, Nat.sub_zero]
      · rw [if_neg z, if_neg z, Int.zero_mul]
    rw [sumN_congr e, sumN_pt, if_pos ht]
    exact Int.le_refl _
  | t + 1, ht => by
    rw [aR_s]
    exact spB hn (aR_nn t) ht (aR_B hn t (by omega)) (Nat.le_refl _)
/-- what is added stays small -/
theorem spN_lim (hn : n ≤ 7) {t : Nat} (ht : t + 1 < 2 ^ n) {o : Nat} (ho : o ≤ n) {y : Nat} (hy : t < y) (hy2 : y < 2 ^ n) : spN al (aR n al t) t o y ≤ 823543 := by
  have a := spB (al := al) hn (r := aR n al t) (aR_nn t) ht (aR_B hn t (by omega)) ho
  have nn : ∀ i, i < 2 ^ n → 0 ≤ spN al (aR n al t) t o i * cB n (t + 1) i := fun i hi => by
    refine Int.mul_nonneg (spN_nn (aR_nn t) o i) ?_
    have := p7p (n - bc i)
    unfold cB
    split <;> omega
  have b := sumN_one nn hy2
  have c7 : (7 ^ n : Nat) ≤ 7 ^ 7 := Nat.pow_le_pow_right (by omega) hn
  have c8 : (7 ^ 7 : Nat) = 823543 := by decide
  have pp := p7p (n - bc y)
  have nn2 := spN_nn (al := al) (aR_nn (n := n) (al := al) t) (t := t) o y
  have e : cB n (t + 1) y = ((7 ^ (n - bc y) : Nat) : Int) := if_pos (by omega)
  simp only [e] at b
  have d : spN al (aR n al t) t o y * 1 ≤ spN al (aR n al t) t o y * ((7 ^ (n - bc y) : Nat) : Int) := Int.mul_le_mul_of_nonneg_left pp nn2
  omega
section
variable {o p : Nat}
abbrev vT (n : Nat) (al : Nat → Nat) (o p x : Nat) : Int := thrW n al o (p - bc x) (bc x) x
abbrev cT (n : Nat) (al : Nat → Nat) (o p t x : Nat) : Int := if (t ≤ x ∧ bc x ≤ p) ∨ (x < t ∧ bc x = p) then vT n al o p x else 0
theorem aR_T (hn : n ≤ 7) (hp : p < n) : ∀ t, t < 2 ^ n → sumN (fun x => aR n al t x * cT n al o p t x) (2 ^ n) = thrW n al o p 0 0
  | 0, ht => by
    have e : ∀ x, x < 2 ^ n → aR n al 0 x * cT n al o p 0 x = if x = 0 then thrW n al o p 0 0 else 0 := fun x hx => by
      rw [aR_0]
      by_cases z : x = 0
      · subst z
        rw [if_pos rfl, if_pos rfl, cT, if_pos (Or.inl ⟨Nat.zero_le _, by rw [bc_0]; omega⟩), vT, bc_0, Int.one_mul, Nat.sub_zero]
      · rw [if_neg z, if_neg z, Int.zero_mul]
    rw [sumN_congr e, sumN_pt, if_pos ht]
  | t + 1, ht => by
    have p7 := pow_le7 hn
    have ih : sumN (fun x => aR n al t x * cT n al o p t x) (2 ^ n) = thrW n al o p 0 0 := aR_T hn hp t (by omega)
    rw [aR_s, spN_sum hn (by omega) _ n (Nat.le_refl _)]
    rcases Nat.lt_or_ge (bc t) p with q | q
    · have e : ∀ x, x < 2 ^ n → aR n al t x * cT n al o p t x = aR n al t x * cT n al o p (t + 1) x + (if x = t then aR n al t t * vT n al o p t else 0) := fun x hx => by
        unfold cT
        by_cases y : x = t
        · subst y
          rw [if_pos (Or.inl ⟨Nat.le_refl _, by omega⟩), if_neg (by omega), if_pos rfl]
          omega
        · rw [if_neg y, Int.add_zero]
          by_cases w : (t ≤ x ∧ bc x ≤ p) ∨ (x < t ∧ bc x = p)
          · rw [if_pos w, if_pos (by omega)]
          · rw [if_neg w, if_neg (by omega)]
      rw [sumN_congr e, sumN_add, sumN_pt, if_pos (by omega)] at ih
      rw [← ih]
      congr 1
      have v : vT n al o p t = sumN (fun q => if opW al (bc t) t q then vT n al o p (t ||| 2 ^ q) else 0) n := by
        rw [vT, show p - bc t = (p - bc t - 1) + 1 by omega, thrW]
        refine sumN_congr (fun q hq => ?_)
        by_cases z : opW al (bc t) t q
        · have b1 := bc_or q (by omega) t (by omega) z.2
          rw [if_pos z, if_pos z, vT, b1, show p - (bc t + 1) = p - bc t - 1 by omega]
        · rw [if_neg z, if_neg z]
      rw [v, ← sumN_mul]
      refine sumN_congr (fun q hq => ?_)
      by_cases z : opW al (bc t) t q
      · have g := or_gt q (by omega) t (by omega) z.2
        have b1 := bc_or q (by omega) t (by omega) z.2
        rw [if_pos z, if_pos z, cT, if_pos (Or.inl ⟨by omega, by omega⟩)]
      · rw [if_neg z, if_neg z, Int.mul_zero]
    · have e : ∀ x, x < 2 ^ n → aR n al t x * cT n al o p (t + 1) x = aR n al t x * cT n al o p t x := fun x hx => by
        congr 1
        unfold cT
        by_cases w : (t ≤ x ∧ bc x ≤ p) ∨ (x < t ∧ bc x = p)
        · rw [if_pos w, if_pos ?_]
          by_cases y : x = t
          · subst y; omega
          · omega
        · rw [if_neg w, if_neg ?_]
          by_cases y : x = t
          · subst y; omega
          · omega
      rw [sumN_congr e, ih, sumN_zero, Int.add_zero]
      intro q2 hq
      by_cases z : opW al (bc t) t q2
      · have g := or_gt q2 (by omega) t (by omega) z.2
        have b1 := bc_or q2 (by omega) t (by omega) z.2
        rw [if_pos z, cT, if_neg (by omega), Int.mul_zero]
      · rw [if_neg z]
/-- those through whom it is that one warms another one -/
abbrev thT (n : Nat) (al : Nat → Nat) (o p x : Nat) : Int := if bc x = p ∧ opW al p x o then aR n al (2 ^ n - 1) x * nB n al (n - 1 - p) (p + 1) (x ||| 2 ^ o) else 0
theorem aR_thr (hn : n ≤ 7) (hp : p < n) : sumN (thT n al o p) (2 ^ n - 1) = thrW n al o p 0 0 := by
  have p1 := Nat.two_pow_pos n
  have p7 := pow_le7 hn
  rw [← aR_T hn hp (2 ^ n - 1) (by omega)]
  have e2 : 2 ^ n = (2 ^ n - 1) + 1 := by omega
  have : ∀ f : Nat → Int, f (2 ^ n - 1) = 0 → sumN f (2 ^ n) = sumN f (2 ^ n - 1) := fun f z => by
    conv => lhs; rw [e2, sumN_s, z]
    omega
  rw [this]
  · refine sumN_congr (fun x hx => ?_)
    unfold thT cT vT
    by_cases z : bc x = p
    · rw [if_pos (Or.inr ⟨hx, z⟩), z, Nat.sub_self, thrW]
      by_cases y : opW al p x o
      · rw [if_pos ⟨rfl, y⟩, if_pos y]
      · rw [if_neg (fun w => y w.2), if_neg y, Int.mul_zero]
    · rw [if_neg (fun w => z w.1), if_neg (by omega), Int.mul_zero]
  · have := bc_full2 n hn
    simp only [cT]
    rw [if_neg (by omega), Int.mul_zero]
end
end
section
variable {xs : List Int} {d : Nat} {h : mM} {n : Nat} {al : Nat → Nat}
theorem Wst.keep {h' : mM} (s : Wst n al h) (a : h' 111 = h 111) (b : h' 112 = h 112) : Wst n al h' := ⟨by rw [a]; exact s.1, by rw [a]; exact s.2.1, fun p hp => by rw [b]; exact s.2.2 p hp⟩
theorem t_spread (hn : n ≤ 7) (hal : ∀ p, al p < 128) (s : Wst n al h) {t : Nat} (ht : t + 1 < 2 ^ n) (hr : ∀ x : Nat, x < 2 ^ n → h 113 (x : Int) = aR n al t x) : ∃ h', C xs d 348 0 [mR 111, mI (t : Int)] h = some ([], h') ∧ Ow [113] h h' ∧ ∀ x : Nat, x < 2 ^ n → h' 113 (x : Int) = aR n al (t + 1) x := by
  have p7 := pow_le7 hn
  have bl : bc t < n := by
    rcases Nat.lt_or_ge (bc t) n with z | z
    · exact z
    · have := bc_full n hn t (by omega) (by have := bc_le n hn t (by omega); omega)
      omega
  have key : ∀ (m o : Nat) (g : mM), o + m = n → Ow [113] h g → (∀ x : Nat, x < 2 ^ n → g 113 (x : Int) = spN al (aR n al t) t o x) → ∃ h', X xs d k_Wy_spread 5 [mR 111, mI (t : Int), mI ((bc t : Nat) : Int), mI (o : Int)] [] g = some ([], h') ∧ Ow [113] h h' ∧ ∀ x : Nat, x < 2 ^ n → h' 113 (x : Int) = aR n al (t + 1) x := by
    intro m
    induction m with
    | zero =>
      intro o g ho og hg
      obtain rfl : o = n := by omega
      refine ⟨g, ?_, og, fun x hx => by rw [hg x hx, aR_s]⟩
      rw [e_Wy_spread_5, og.at 111 rfl, s.1, if_neg (by omega)]
    | succ m ih =>
      intro o g ho og hg
      have gs : Wst n al g := s.keep (og.at 111 rfl) (og.at 112 rfl)
      by_cases z : opW al (bc t) t o
      · have g1 := or_gt o (by omega) t (by omega) z.2
        have g2 := or_n hn (t := t) (o := o) (by omega) (by omega)
        have orE : fOr ((t : Nat) : Int) (fShl 1 ((o : Nat) : Int)) = ((t ||| 2 ^ o : Nat) : Int) := by
          have : 2 ^ o < 2 ^ n := Nat.pow_lt_pow_right (by omega) (by omega)
          rw [shl_small o (by omega), or_nat t (by omega) _ (by omega)]
        have L := spN_lim (al := al) hn ht (show o + 1 ≤ n by omega) g1 g2
        have N := spN_nn (al := al) (aR_nn (n := n) (al := al) t) (t := t) (o + 1) (t ||| 2 ^ o)
        have E : spN al (aR n al t) t (o + 1) (t ||| 2 ^ o) = spN al (aR n al t) t o (t ||| 2 ^ o) + aR n al t t := by rw [spN_s, if_pos ⟨z, rfl⟩]
        obtain ⟨h', r1, r2⟩ := ih (o + 1) (upM g 113 ((t ||| 2 ^ o : Nat) : Int) (spN al (aR n al t) t (o + 1) (t ||| 2 ^ o))) (by omega) (og.up (by simp)) (fun x hx => by
          rw [up_at]
          by_cases y : x = t ||| 2 ^ o
          · subst y; rw [if_pos rfl]
          · rw [if_neg (by omega), hg x hx, spN_s, if_neg (fun w => y w.2)])
        refine ⟨h', ?_, r2⟩
        rw [e_Wy_spread_5, gs.1]
        refine if_y (by omega) ?_
        refine cI_of (t_isOpen hn hal gs (by omega) (by omega) (by omega)) ?_
        refine if_n ((by rw [b2i_y z]; decide)) ?_
        rw [orE, hg _ g2, hg t (by omega), spN_own hn (by omega) o (by omega), ← E]
        refine if_y (by omega) ?_
        refine if_y (by omega) ?_
        refine if_y (by omega) ?_
        refine if_y (by omega) ?_
        rw [e_Wy_spread_30]
        refine if_y (by omega) ?_
        exact r1
      · obtain ⟨h', r1, r2⟩ := ih (o + 1) g (by omega) og (fun x hx => by rw [hg x hx, spN_s, if_neg (fun w => z w.1)])
        refine ⟨h', ?_, r2⟩
        rw [e_Wy_spread_5, gs.1]
        refine if_y (by omega) ?_
        refine cI_of (t_isOpen hn hal gs (by omega) (by omega) (by omega)) ?_
        refine if_y (b2i_n z) ?_
        rw [e_Wy_spread_30]
        refine if_y (by omega) ?_
        exact r1
  obtain ⟨h', r1, r2⟩ := key n 0 h (by omega) Ow.rf hr
  refine ⟨h', ?_, r2⟩
  rw [c_Wy_spread]
  refine cI_of (t_bitCount (by omega)) ?_
  exact r1
abbrev nbA (n : Nat) (al : Nat → Nat) (x : Nat) : Int := nB n al (n - bc x) (bc x) x
theorem t_gather (hn : n ≤ 7) (hal : ∀ p, al p < 128) (s : Wst n al h) {t : Nat} (ht : t + 1 < 2 ^ n) (h0 : h 114 (t : Int) = 0) (hr : ∀ x : Nat, t < x → x < 2 ^ n → h 114 (x : Int) = nbA n al x) : ∃ h', C xs d 349 0 [mR 111, mI (t : Int)] h = some ([], h') ∧ Ow [114] h h' ∧ (∀ x : Int, x < t → h' 114 x = h 114 x) ∧ ∀ x : Nat, t ≤ x → x < 2 ^ n → h' 114 (x : Int) = nbA n al x := by
  have p7 := pow_le7 hn
  have bl : bc t < n := by
    rcases Nat.lt_or_ge (bc t) n with z | z
    · exact z
    · have := bc_full n hn t (by omega) (by have := bc_le n hn t (by omega); omega)
      omega
  have eN : n - bc t = (n - bc t - 1) + 1 := by omega
  generalize hF : (fun o => if opW al (bc t) t o then nB n al (n - bc t - 1) (bc t + 1) (t ||| 2 ^ o) else 0) = F
  have hA : nbA n al t = sumN F n := by rw [nbA, eN, nB, ← hF]
  have F0 : ∀ i, 0 ≤ F i := fun i => by
    have := nB_bd (al := al) hn (n - bc t - 1) (bc t + 1) (t ||| 2 ^ i)
    rw [← hF]
    dsimp only
    split <;> omega
  have top : sumN F n ≤ 823543 := by
    rw [← hA]
    have a := nB_bd (al := al) hn (n - bc t) (bc t) t
    have c7 : 7 ^ (n - bc t) ≤ 7 ^ 7 := Nat.pow_le_pow_right (by omega) (by omega)
    have c8 : (7 ^ 7 : Nat) = 823543 := by decide
    rw [nbA]
    omega
  have key : ∀ (m o : Nat) (g : mM), o + m = n → Ow [114] h g → g 114 (t : Int) = sumN F o → (∀ x : Int, x < t → g 114 x = h 114 x) → (∀ x : Nat, t < x → x < 2 ^ n → g 114 (x : Int) = nbA n al x) → ∃ h', X xs d k_Wy_gather 5 [mR 111, mI (t : Int), mI ((bc t : Nat) : Int), mI (o : Int)] [] g = some ([], h') ∧ Ow [114] h h' ∧ (∀ x : Int, x < t → h' 114 x = h 114 x) ∧ ∀ x : Nat, t ≤ x → x < 2 ^ n → h' 114 (x : Int) = nbA n al x := by
    intro m
    induction m with
    | zero =>
      intro o g ho og g1 g2 g3
      obtain rfl : o = n := by omega
      refine ⟨g, ?_, og, g2, fun x a b => ?_⟩
      · rw [e_Wy_gather_5, og.at 111 rfl, s.1, if_neg (by omega)]
      · by_cases e : x = t
        · subst e; rw [g1, hA]
        · exact g3 x (by omega) b
    | succ m ih =>
      intro o g ho og g1 g2 g3
      have gs : Wst n al g := s.keep (og.at 111 rfl) (og.at 112 rfl)
      by_cases z : opW al (bc t) t o
      · have o1 := or_gt o (by omega) t (by omega) z.2
        have o2 := or_n hn (t := t) (o := o) (by omega) (by omega)
        have b1 := bc_or o (by omega) t (by omega) z.2
        have orE : fOr ((t : Nat) : Int) (fShl 1 ((o : Nat) : Int)) = ((t ||| 2 ^ o : Nat) : Int) := by
          have : 2 ^ o < 2 ^ n := Nat.pow_lt_pow_right (by omega) (by omega)
          rw [shl_small o (by omega), or_nat t (by omega) _ (by omega)]
        have E : sumN F (o + 1) = sumN F o + nbA n al (t ||| 2 ^ o) := by
          rw [sumN_s, ← hF]
          dsimp only
          rw [if_pos z, nbA, b1, show n - (bc t + 1) = n - bc t - 1 by omega]
        have m1 := sumN_mono F0 (show o + 1 ≤ n by omega)
        have m2 := sumN_nn (f := F) (k := o + 1) (fun i _ => F0 i)
        obtain ⟨h', r1, r2⟩ := ih (o + 1) (upM g 114 (t : Int) (sumN F (o + 1))) (by omega) (og.up (by simp)) (by rw [up_eq]) (fun x hx => by rw [up_at, if_neg (by omega)]; exact g2 x hx) (fun x a b => by rw [up_at, if_neg (by omega)]; exact g3 x a b)
        refine ⟨h', ?_, r2⟩
        rw [e_Wy_gather_5, gs.1]
        refine if_y (by omega) ?_
        refine cI_of (t_isOpen hn hal gs (by omega) (by omega) (by omega)) ?_
        refine if_n ((by rw [b2i_y z]; decide)) ?_
        rw [orE, g1, g3 _ o1 o2, ← E]
        refine if_y (by omega) ?_
        refine if_y (by omega) ?_
        refine if_y (by omega) ?_
        refine if_y (by omega) ?_
        rw [e_Wy_gather_30]
        refine if_y (by omega) ?_
        exact r1
      · have E : sumN F (o + 1) = sumN F o := by
          rw [sumN_s, ← hF]
          dsimp only
          rw [if_neg z, Int.add_zero]
        obtain ⟨h', r1, r2⟩ := ih (o + 1) g (by omega) og (by rw [E]; exact g1) g2 g3
        refine ⟨h', ?_, r2⟩
        rw [e_Wy_gather_5, gs.1]
        refine if_y (by omega) ?_
        refine cI_of (t_isOpen hn hal gs (by omega) (by omega) (by omega)) ?_
        refine if_y (b2i_n z) ?_
        rw [e_Wy_gather_30]
        refine if_y (by omega) ?_
        exact r1
  obtain ⟨h', r1, r2⟩ := key n 0 h (by omega) Ow.rf h0 (fun _ _ => rfl) hr
  refine ⟨h', ?_, r2⟩
  rw [c_Wy_gather]
  refine cI_of (t_bitCount (by omega)) ?_
  exact r1
/-- all is counted -/
def Wdn (n : Nat) (al : Nat → Nat) (h : mM) : Prop := Wst n al h ∧ (∀ x : Nat, x < 2 ^ n → h 113 (x : Int) = aR n al (2 ^ n - 1) x) ∧ ∀ x : Nat, x < 2 ^ n → h 114 (x : Int) = nbA n al x
theorem t_countAll (hn : n ≤ 7) (hal : ∀ p, al p < 128) (s : Wst n al h) : ∃ h', C xs d 347 0 [mR 111] h = some ([], h') ∧ Wdn n al h' ∧ Ow [113, 114] h h' := by
  have p7 := pow_le7 hn
  have p1 := Nat.two_pow_pos n
  rw [c_Wy_countAll]
  have down : ∀ (m : Nat) (g : mM), m + 1 ≤ 2 ^ n → Ow [113, 114] h g → (∀ x : Nat, x < 2 ^ n → g 113 (x : Int) = aR n al (2 ^ n - 1) x) → (∀ x : Nat, x < m → g 114 (x : Int) = 0) → (∀ x : Nat, m ≤ x → x < 2 ^ n → g 114 (x : Int) = nbA n al x) → ∃ h', X xs d k_Wy_countAll 45 [mR 111, mI ((m : Int) - 1)] [] g = some ([], h') ∧ Wdn n al h' ∧ Ow [113, 114] h h' := by
    intro m
    induction m with
    | zero =>
      intro g hm og a1 a2 a3
      refine ⟨g, ?_, ⟨s.keep (og.at 111 rfl) (og.at 112 rfl), a1, fun x hx => a3 x (Nat.zero_le _) hx⟩, og⟩
      rw [e_Wy_countAll_45, if_pos (by omega)]
    | succ m ih =>
      intro g hm og a1 a2 a3
      have gs : Wst n al g := s.keep (og.at 111 rfl) (og.at 112 rfl)
      obtain ⟨k, r1, r2, r3, r4⟩ := t_gather (xs := xs) (d := d) hn hal gs (t := m) (by omega) (a2 m (by omega)) (fun x u v => a3 x (by omega) v)
      obtain ⟨h', q1, q2⟩ := ih k (by omega) (og.tr r2 (fun _ z => z) (by simp)) (fun x hx => by rw [r2.at 113 rfl]; exact a1 x hx) (fun x hx => by rw [r3 x (by omega)]; exact a2 x (by omega)) r4
      refine ⟨h', ?_, q2⟩
      rw [e_Wy_countAll_45]
      refine if_n (by omega) ?_
      rw [show ((m + 1 : Nat) : Int) - 1 = (m : Int) by omega]
      refine cV_of (r1) ?_
      refine if_y (by omega) ?_
      rw [show (m : Int) + -1 = (m : Int) - 1 by omega]
      exact q1
  have up : ∀ (m t : Nat) (g : mM), t + m = 2 ^ n - 1 → Ow [113, 114] h g → (∀ x : Nat, x < 2 ^ n → g 113 (x : Int) = aR n al t x) → (∀ x : Nat, x < 2 ^ n → g 114 (x : Int) = if x = 2 ^ n - 1 then 1 else 0) → ∃ h', X xs d k_Wy_countAll 31 [mR 111, mI (t : Int)] [] g = some ([], h') ∧ Wdn n al h' ∧ Ow [113, 114] h h' := by
    intro m
    induction m with
    | zero =>
      intro t g ht og a1 a2
      obtain rfl : t = 2 ^ n - 1 := by omega
      obtain ⟨h', q1, q2⟩ := down (2 ^ n - 1) g (by omega) og a1 (fun x hx => by rw [a2 x (by omega), if_neg (by omega)]) (fun x u v => by
        obtain rfl : x = 2 ^ n - 1 := by omega
        rw [a2 _ v, if_pos rfl, nbA, bc_full2 n hn, Nat.sub_self, nB])
      refine ⟨h', ?_, q2⟩
      rw [e_Wy_countAll_31, og.at 111 rfl, s.2.1, if_neg (by omega), if_pos (by omega)]
      exact q1
    | succ m ih =>
      intro t g ht og a1 a2
      have gs : Wst n al g := s.keep (og.at 111 rfl) (og.at 112 rfl)
      obtain ⟨k, r1, r2, r3⟩ := t_spread (xs := xs) (d := d) hn hal gs (t := t) (by omega) a1
      obtain ⟨h', q1, q2⟩ := ih (t + 1) k (by omega) (og.tr r2 (fun _ z => z) (by simp)) r3 (fun x hx => by rw [r2.at 114 rfl]; exact a2 x hx)
      refine ⟨h', ?_, q2⟩
      rw [e_Wy_countAll_31, gs.2.1]
      refine if_y (by omega) ?_
      refine cV_of (r1) ?_
      refine if_y (by omega) ?_
      exact q1
  have clear : ∀ (m t : Nat) (g : mM), t + m = 2 ^ n → Ow [113, 114] h g → (∀ x : Nat, x < t → g 113 (x : Int) = 0 ∧ g 114 (x : Int) = 0) → ∃ h', X xs d k_Wy_countAll 2 [mR 111, mI (t : Int)] [] g = some ([], h') ∧ Wdn n al h' ∧ Ow [113, 114] h h' := by
    intro m
    induction m with
    | zero =>
      intro t g ht og a1
      obtain rfl : t = 2 ^ n := by omega
      have gs : Wst n al g := s.keep (og.at 111 rfl) (og.at 112 rfl)
      obtain ⟨h', q1, q2⟩ := up (2 ^ n - 1) 0 (upM (upM g 113 0 1) 114 ((2 ^ n - 1 : Nat) : Int) 1) (by omega) ((og.up (by simp)).up (by simp)) (fun x hx => by
        rw [up_ne (by omega), up_at, aR_0]
        by_cases z : x = 0
        · subst z; rw [if_pos (show ((0 : Nat) : Int) = 0 from rfl), if_pos rfl]
        · rw [if_neg (by omega), if_neg z]; exact (a1 x hx).1) (fun x hx => by
        rw [up_at]
        by_cases z : x = 2 ^ n - 1
        · subst z; rw [if_pos rfl, if_pos rfl]
        · rw [if_neg (by omega), if_neg z, up_ne (by omega)]; exact (a1 x hx).2)
      refine ⟨h', ?_, q2⟩
      rw [e_Wy_countAll_2, gs.2.1]
      refine if_y (by omega) ?_
      refine if_y (by omega) ?_
      exact q1
    | succ m ih =>
      intro t g ht og a1
      have gs : Wst n al g := s.keep (og.at 111 rfl) (og.at 112 rfl)
      obtain ⟨h', q1, q2⟩ := ih (t + 1) (upM (upM g 113 (t : Int) 0) 114 (t : Int) 0) (by omega) ((og.up (by simp)).up (by simp)) (fun x hx => by
        rw [up_ne (by omega), up_at, up_at, up_ne (by omega)]
        by_cases z : x = t
        · subst z; rw [if_pos rfl, if_pos rfl]; exact ⟨rfl, rfl⟩
        · rw [if_neg (by omega), if_neg (by omega)]; exact a1 x (by omega))
      refine ⟨h', ?_, q2⟩
      rw [e_Wy_countAll_2, gs.2.1]
      refine if_n (by omega) ?_
      refine if_y (by omega) ?_
      refine if_y (by omega) ?_
      refine if_y (by omega) ?_
      exact q1
  exact clear (2 ^ n) 0 h (by omega) Ow.rf (fun x hx => by omega)
end
section
variable {xs : List Int} {d : Nat} {h : mM} {n : Nat} {al : Nat → Nat}
abbrev snD (h : mM) (x : Int) (i : Nat) : Nat := (h (3 + x.toNat) ((2 * i : Nat) : Int)).toNat
abbrev snW (h : mM) (x : Int) (i : Nat) : Nat := (h (3 + x.toNat) ((2 * i + 1 : Nat) : Int)).toNat
theorem t_findWays (c : Kc) (k : CoT 12 c h) (w : WfC c) {x m : Int} (e : wyS h (2 ^ (c 0 0).toNat) x m = 0) : ∃ h', C xs d 49 0 [mR 0, mI x, mI m] h = some ([], h') ∧ Wdn (c 0 0).toNat (alW (c 0 0).toNat (snD h x) (snW h x) m.toNat) h' ∧ Ow [111, 112, 113, 114] h h' := by
  obtain ⟨hx, hm, h8, hl, ok⟩ := wyS_ok e
  have hc := w.1
  have hn : (c 0 0).toNat ≤ 7 := by omega
  have p7 := pow_le7 hn
  obtain ⟨n, nE⟩ : ∃ n : Nat, (c 0 0).toNat = n := ⟨_, rfl⟩
  have nE2 : c 0 0 = (n : Int) := by omega
  rw [nE] at hn p7 ok ⊢
  rw [c_T_findWays, k.n, nE2]
  obtain ⟨h0, b1, b2, b3⟩ := t_wyBegin (xs := xs) (d := d) (h := h) hn (snD h x) (snW h x)
  have trE : ∀ g : mM, Ow [111, 112] h g → g (3 + x.toNat) = h (3 + x.toNat) := fun g og => og _ (by
    have : x.toNat < 4 := by omega
    simp only [List.mem_cons, List.not_mem_nil, or_false]; omega)
  have key : ∀ (r i : Nat) (g : mM), i + r = m.toNat → Wst n (alW n (snD h x) (snW h x) i) g → Ow [111, 112] h g → ∃ h', X xs d k_T_findWays 8 [mR 0, mI x, mI m, mI (i : Int)] [] g = some ([], h') ∧ Wdn n (alW n (snD h x) (snW h x) m.toNat) h' ∧ Ow [111, 112, 113, 114] h h' := by
    intro r
    induction r with
    | zero =>
      intro i g hi s og
      obtain rfl : i = m.toNat := by omega
      obtain ⟨h', r1, r2, r3⟩ := t_countAll (xs := xs) (d := d) hn (fun p => alW_lt hn m.toNat p) s
      refine ⟨h', ?_, r2, og.tr r3 (by simp) (by simp)⟩
      rw [e_T_findWays_8]
      refine if_n (by omega) ?_
      refine cV_of (r1) ?_
      rfl
    | succ r ih =>
      intro i g hi s og
      have o1 := ok (2 * i) (by omega)
      have o2 := ok (2 * i + 1) (by omega)
      unfold okS at o1 o2
      obtain ⟨g', r1, r2, r3⟩ := t_wySeen (xs := xs) (d := d) hn (D := snD h x) (W := snW h x) (i := i) (h := g) (by unfold snD; omega) (by unfold snW; omega) s
      obtain ⟨h', q1, q2⟩ := ih (i + 1) g' (by omega) r2 (og.tr r3 (fun _ z => z) (fun _ z => z))
      refine ⟨h', ?_, q2⟩
      rw [e_T_findWays_8]
      refine if_y (by omega) ?_
      refine if_y (by omega) ?_
      refine cL_of (t_atTr hx (by omega)) ?_
      refine if_y (by omega) ?_
      refine if_y (by omega) ?_
      refine cL_of (t_atTr hx (by omega)) ?_
      rw [trE g og, show 2 * (i : Int) = ((2 * i : Nat) : Int) by omega, show ((2 * i : Nat) : Int) + 1 = ((2 * i + 1 : Nat) : Int) by omega, fL2i_id (by omega) (by omega), fL2i_id (by omega) (by omega)]
      rw [show h (3 + x.toNat) ((2 * i : Nat) : Int) = ((snD h x i : Nat) : Int) by unfold snD; omega, show h (3 + x.toNat) ((2 * i + 1 : Nat) : Int) = ((snW h x i : Nat) : Int) by unfold snW; omega]
      refine cV_of (r1) ?_
      refine if_y (by omega) ?_
      exact q1
  obtain ⟨h', r1, r2⟩ := key m.toNat 0 h0 (by omega) b2 b3
  refine ⟨h', ?_, r2⟩
  refine cV_of (b1) ?_
  exact r1
theorem t_wyAll (s : Wdn n al h) : C xs d 351 0 [mR 111] h = some ([mI (nB n al n 0 0)], h) := by
  have := s.2.2 0 (Nat.two_pow_pos n)
  rw [nbA, bc_0, Nat.sub_zero] at this
  rw [c_Wy_all]
  exact congrArg (fun v => some ([mI v], h)) this
theorem nB_top (hn : n ≤ 7) (m k S : Nat) (hm : m ≤ 7) : 0 ≤ nB n al m k S ∧ nB n al m k S ≤ 823543 := by
  have a := nB_bd (al := al) hn m k S
  have c7 : 7 ^ m ≤ 7 ^ 7 := Nat.pow_le_pow_right (by omega) hm
  have c8 : (7 ^ 7 : Nat) = 823543 := by decide
  omega
theorem thrW_top (hn : n ≤ 7) {p o : Nat} (hp : p < n) : 0 ≤ thrW n al o p 0 0 ∧ thrW n al o p 0 0 ≤ 823543 := by
  have a := thrW_bd (al := al) hn (o := o) p 0 0 (by omega)
  have c7 : 7 ^ n ≤ 7 ^ 7 := Nat.pow_le_pow_right (by omega) hn
  have c8 : (7 ^ 7 : Nat) = 823543 := by decide
  rw [Nat.sub_zero] at a
  omega
theorem t_through (hn : n ≤ 7) (hal : ∀ p, al p < 128) (s : Wdn n al h) {p o : Nat} (hp : p < n) (ho : o < n) : C xs d 352 0 [mR 111, mI (p : Int), mI (o : Int)] h = some ([mI (thrW n al o p 0 0)], h) := by
  have p7 := pow_le7 hn
  have p1 := Nat.two_pow_pos n
  have T0 : ∀ i, 0 ≤ thT n al o p i := fun i => by
    unfold thT
    split
    · exact Int.mul_nonneg (aR_nn _ _) (nB_bd hn _ _ _).1
    · exact Int.le_refl _
  have tot := aR_thr (al := al) hn hp (o := o)
  have top := thrW_top (al := al) hn hp (o := o)
  have bd : ∀ i, i ≤ 2 ^ n - 1 → 0 ≤ sumN (thT n al o p) i ∧ sumN (thT n al o p) i ≤ 823543 := fun i hi => by
    have := sumN_mono T0 hi
    have := sumN_nn (f := thT n al o p) (k := i) (fun i _ => T0 i)
    omega
  rw [c_Wy_through, ← tot]
  have st : ∀ i : Nat, i < 2 ^ n - 1 → X xs d k_Wy_through 4 [mR 111, mI (p : Int), mI (o : Int), mI (sumN (thT n al o p) i), mI (i : Int)] [] h = X xs d k_Wy_through 4 [mR 111, mI (p : Int), mI (o : Int), mI (sumN (thT n al o p) (i + 1)), mI ((i + 1 : Nat) : Int)] [] h := by
    intro i hi
    have b0 := bd i (by omega)
    have b1 := bd (i + 1) (by omega)
    rw [e_Wy_through_4, s.1.2.1]
    refine if_y (by omega) ?_
    refine cI_of (t_bitCount (by omega)) ?_
    by_cases z : bc i = p
    · subst z
      refine if_y (by omega) ?_
      refine cI_of (t_isOpen hn hal s.1 (by omega) (by omega) (by omega)) ?_
      by_cases y : opW al (bc i) i o
      · refine if_n ((by rw [b2i_y y]; decide)) ?_
        have o2 := or_n hn (t := i) (o := o) (by omega) (by omega)
        have orE : fOr ((i : Nat) : Int) (fShl 1 ((o : Nat) : Int)) = ((i ||| 2 ^ o : Nat) : Int) := by
          have : 2 ^ o < 2 ^ n := Nat.pow_lt_pow_right (by omega) (by omega)
          rw [shl_small o (by omega), or_nat i (by omega) _ (by omega)]
        have b2 := bc_or o (by omega) i (by omega) y.2
        have vE : h 113 (i : Int) * h 114 ((i ||| 2 ^ o : Nat) : Int) = thT n al o (bc i) i := by
          rw [thT, if_pos ⟨rfl, y⟩, s.2.1 i (by omega), s.2.2 _ o2, nbA, b2, show n - (bc i + 1) = n - 1 - bc i by omega]
        rw [sumN_s] at b1 ⊢
        rw [orE, vE]
        have := T0 i
        refine if_y (by omega) ?_
        refine if_y (by omega) ?_
        refine if_y (by omega) ?_
        refine if_y (by omega) ?_
        rw [e_Wy_through_34]
        refine if_y (by omega) ?_
        rfl
      · refine if_y (b2i_n y) ?_
        rw [sumN_s, thT, if_neg (fun z => y z.2), Int.add_zero, e_Wy_through_34]
        refine if_y (by omega) ?_
        rfl
    · refine if_n ((by omega)) ?_
      rw [sumN_s, thT, if_neg (fun y => z y.1), Int.add_zero, e_Wy_through_34]
      refine if_y (by omega) ?_
      rfl
  refine (run_to (fun i : Nat => X xs d k_Wy_through 4 [mR 111, mI (p : Int), mI (o : Int), mI (sumN (thT n al o p) i), mI (i : Int)] [] h) st).trans ?_
  rw [e_Wy_through_4, s.1.2.1]
  refine if_n (by omega) ?_
  rfl
theorem t_firstOpen (hn : n ≤ 7) (hal : ∀ p, al p < 128) (s : Wdn n al h) {S k m : Nat} (hS : S < 2 ^ n) (hb : bc S = k) (hk : k + (m + 1) = n) (pos : 0 < nB n al (m + 1) k S) : C xs d 354 0 [mR 111, mI (S : Int), mI (k : Int)] h = some ([mI ((fo n al k S : Nat) : Int)], h) := by
  have p7 := pow_le7 hn
  obtain ⟨f1, f2, f3⟩ := nB_first hn hk pos
  generalize fo n al k S = f at f1 f2 f3 ⊢
  have rd : ∀ o, o < n → opW al k S o → fOr ((S : Nat) : Int) (fShl 1 ((o : Nat) : Int)) = ((S ||| 2 ^ o : Nat) : Int) ∧ S ||| 2 ^ o < 2 ^ n ∧ h 114 ((S ||| 2 ^ o : Nat) : Int) = nB n al m (k + 1) (S ||| 2 ^ o) := fun o ho y => by
    have o2 := or_n hn (t := S) (o := o) hS ho
    have : 2 ^ o < 2 ^ n := Nat.pow_lt_pow_right (by omega) (by omega)
    have b2 := bc_or o (by omega) S (by omega) y.2
    refine ⟨by rw [shl_small o (by omega), or_nat S (by omega) _ (by omega)], o2, ?_⟩
    rw [s.2.2 _ o2, nbA, b2, hb, show n - (k + 1) = m by omega]
  rw [c_Wy_firstOpen]
  have st : ∀ i : Nat, i < f → X xs d k_Wy_firstOpen 2 [mR 111, mI (S : Int), mI (k : Int), mI (i : Int)] [] h = X xs d k_Wy_firstOpen 2 [mR 111, mI (S : Int), mI (k : Int), mI ((i + 1 : Nat) : Int)] [] h := by
    intro i hi
    rw [e_Wy_firstOpen_2, s.1.1]
    refine if_y (by omega) ?_
    refine cI_of (t_isOpen hn hal s.1 (by omega) (by omega) (by omega)) ?_
    by_cases y : opW al k S i
    · obtain ⟨a, b, e⟩ := rd i (by omega) y
      have : ¬ 0 < nB n al m (k + 1) (S ||| 2 ^ i) := fun z => f3 i hi ⟨y, z⟩
      refine if_n ((by rw [b2i_y y]; decide)) ?_
      rw [a, e]
      refine if_y (by omega) ?_
      refine if_n (by omega) ?_
      rw [e_Wy_firstOpen_23]
      refine if_y (by omega) ?_
      rfl
    · refine if_y (b2i_n y) ?_
      rw [e_Wy_firstOpen_23]
      refine if_y (by omega) ?_
      rfl
  refine (run_to (fun i : Nat => X xs d k_Wy_firstOpen 2 [mR 111, mI (S : Int), mI (k : Int), mI (i : Int)] [] h) st).trans ?_
  obtain ⟨a, b, e⟩ := rd f f1 f2.1
  have := f2.2
  rw [e_Wy_firstOpen_2, s.1.1]
  refine if_y (by omega) ?_
  refine cI_of (t_isOpen hn hal s.1 (by omega) (by omega) (by omega)) ?_
  refine if_n ((by rw [b2i_y f2.1]; decide)) ?_
  rw [a, e]
  refine if_y (by omega) ?_
  refine if_y (by omega) ?_
  rfl
theorem t_firstWhom (hn : n ≤ 7) (hal : ∀ p, al p < 128) (s : Wdn n al h) {p : Nat} (hp : p < n) (pos : 0 < nB n al n 0 0) : C xs d 353 0 [mR 111, mI (p : Int)] h = some ([mI ((fW n al p 0 0 : Nat) : Int)], h) := by
  have p7 := pow_le7 hn
  rw [c_Wy_firstWhom]
  have key : ∀ (j k S : Nat) (x3 : Int), k + j = p → S < 2 ^ n → bc S = k → 0 < nB n al (n - k) k S → X xs d k_Wy_firstWhom 6 [mR 111, mI (p : Int), mI (S : Int), mI x3, mI (k : Int)] [] h = some ([mI ((fW n al j k S : Nat) : Int)], h) := by
    intro j
    induction j with
    | zero =>
      intro k S x3 hk hS hb pos
      have eN : n - k = (n - 1 - k) + 1 := by omega
      rw [eN] at pos
      obtain ⟨f1, f2, f3⟩ := nB_first hn (by omega) pos
      rw [e_Wy_firstWhom_6]
      refine if_n (by omega) ?_
      refine cI_of (t_firstOpen hn hal s hS hb (by omega) pos) ?_
      refine if_n (by omega) ?_
      refine if_y (by omega) ?_
      rw [e_Wy_firstWhom_6]
      refine if_y (by omega) ?_
      rfl
    | succ j ih =>
      intro k S x3 hk hS hb pos
      have eN : n - k = (n - 1 - k) + 1 := by omega
      rw [eN] at pos
      obtain ⟨f1, f2, f3⟩ := nB_first hn (by omega) pos
      have b2 := bc_or (fo n al k S) (by omega) S (by omega) f2.1.2
      have : 2 ^ fo n al k S < 2 ^ n := Nat.pow_lt_pow_right (by omega) f1
      rw [e_Wy_firstWhom_6]
      refine if_n (by omega) ?_
      refine cI_of (t_firstOpen hn hal s hS hb (by omega) pos) ?_
      refine if_n (by omega) ?_
      refine if_y (by omega) ?_
      rw [shl_small _ (by omega), or_nat S (by omega) _ (by omega), fW]
      exact ih (k + 1) _ _ (by omega) (or_n hn hS f1) (by omega) (by rw [show n - (k + 1) = n - 1 - k by omega]; exact f2.2)
  exact key p 0 0 (-1) (by omega) (Nat.two_pow_pos n) bc_0 (by rw [Nat.sub_zero]; exact pos)
/-- the most ways by which one warms one and the same -/
def mstW (n : Nat) (al : Nat → Nat) (p : Nat) : Nat → Int
  | 0 => 0
  | o + 1 => max (mstW n al p o) (thrW n al o p 0 0)
theorem t_mostThrough (hn : n ≤ 7) (hal : ∀ p, al p < 128) (s : Wdn n al h) {p : Nat} (hp : p < n) : C xs d 356 0 [mR 111, mI (p : Int)] h = some ([mI (mstW n al p n)], h) := by
  rw [c_Wy_mostThrough]
  have st : ∀ i : Nat, i < n → X xs d k_Wy_mostThrough 4 [mR 111, mI (p : Int), mI (mstW n al p i), mI (i : Int)] [] h = X xs d k_Wy_mostThrough 4 [mR 111, mI (p : Int), mI (mstW n al p (i + 1)), mI ((i + 1 : Nat) : Int)] [] h := by
    intro i hi
    rw [e_Wy_mostThrough_4, s.1.1]
    refine if_y (by omega) ?_
    refine cI_of (t_through hn hal s hp hi) ?_
    refine if_y (by omega) ?_
    rw [mstW]
    rfl
  refine (run_to (fun i : Nat => X xs d k_Wy_mostThrough 4 [mR 111, mI (p : Int), mI (mstW n al p i), mI (i : Int)] [] h) st).trans ?_
  rw [e_Wy_mostThrough_4, s.1.1]
  refine if_n (by omega) ?_
  rfl
/-- whom to ask, among so many -/
def askW (n : Nat) (al : Nat → Nat) : Nat → Nat
  | 0 => 0
  | p + 1 => if p = 0 then 0 else if mstW n al p n < mstW n al (askW n al p) n then p else askW n al p
theorem askW_lt (hn : 0 < n) : ∀ p, p ≤ n → askW n al p < n
  | 0, _ => hn
  | p + 1, hp => by
    have := askW_lt hn p (by omega)
    rw [askW]
    split
    · omega
    · split <;> omega
theorem t_bestAsked (hn : n ≤ 7) (h0 : 0 < n) (hal : ∀ p, al p < 128) (s : Wdn n al h) : C xs d 355 0 [mR 111] h = some ([mI ((askW n al n : Nat) : Int)], h) := by
  rw [c_Wy_bestAsked]
  refine cI_of (t_mostThrough hn hal s h0) ?_
  have key : ∀ (m i : Nat) (x4 : mv), i + m = n → 1 ≤ i → X xs d k_Wy_bestAsked 8 [mR 111, mI ((askW n al i : Nat) : Int), mI (mstW n al (askW n al i) n), mI (i : Int), x4] [] h = some ([mI ((askW n al n : Nat) : Int)], h) := by
    intro m
    induction m with
    | zero =>
      intro i x4 hi h1
      obtain rfl : i = n := by omega
      rw [e_Wy_bestAsked_8, s.1.1]
      refine if_n (by omega) ?_
      rfl
    | succ m ih =>
      intro i x4 hi h1
      rw [e_Wy_bestAsked_8, s.1.1]
      refine if_y (by omega) ?_
      refine cI_of (t_mostThrough hn hal s (by omega)) ?_
      have nx := ih (i + 1) (mI (mstW n al i n)) (by omega) (by omega)
      rw [askW, if_neg (by omega)] at nx
      by_cases z : mstW n al i n < mstW n al (askW n al i) n
      · rw [if_pos z] at nx
        refine if_y (z) ?_
        rw [e_Wy_bestAsked_23]
        refine if_y (by omega) ?_
        exact nx
      · rw [if_neg z] at nx
        refine if_n (z) ?_
        rw [e_Wy_bestAsked_23]
        refine if_y (by omega) ?_
        exact nx
  exact key (n - 1) 1 (mC 0) (by omega) (by omega)
end
