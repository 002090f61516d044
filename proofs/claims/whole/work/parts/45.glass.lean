/-! EQUIV 15: both errors of a test -/
def cts (s : Int) : Nat → Nat → Int
  | 0, i => if i = 0 then 1 else 0
  | m + 1, i => cts s m i * (16 - s) + (if i = 0 then 0 else cts s m (i - 1) * s)
theorem cts_bd {s : Int} (hs : 0 ≤ s ∧ s ≤ 16) : ∀ m i, 0 ≤ cts s m i ∧ cts s m i ≤ ((16 ^ m : Nat) : Int)
  | 0, i => by
    unfold cts
    split <;> simp
  | m + 1, i => by
    have a := cts_bd hs m i
    have a1 := mul_bd a.1 a.2 (show 0 ≤ 16 - s by omega) (Int.le_refl _)
    have e : ((16 ^ (m + 1) : Nat) : Int) = ((16 ^ m : Nat) : Int) * (16 - s) + ((16 ^ m : Nat) : Int) * s := by
      rw [← Int.mul_add, show 16 - s + s = 16 by omega, Nat.pow_succ, Int.natCast_mul]
      rfl
    rw [cts, e]
    by_cases q : i = 0
    · rw [if_pos q]
      have := Int.mul_nonneg (show (0 : Int) ≤ ((16 ^ m : Nat) : Int) by omega) hs.1
      omega
    · rw [if_neg q]
      have b := cts_bd hs m (i - 1)
      have b1 := mul_bd b.1 b.2 hs.1 (Int.le_refl _)
      omega
theorem cts_0 {s : Int} : ∀ m i, m < i → cts s m i = 0
  | 0, i, h => by unfold cts; rw [if_neg (by omega)]
  | m + 1, i, h => by
    rw [cts, cts_0 m i (by omega), if_neg (by omega), cts_0 m (i - 1) (by omega)]
    simp
theorem cts_sum {s : Int} : ∀ m k, sumN (cts s (m + 1)) (k + 1) = 16 * sumN (cts s m) (k + 1) - s * cts s m k
  | m, 0 => by
    rw [sumN_s, sumN_s]
    show 0 + (cts s m 0 * (16 - s) + 0) = 16 * (0 + cts s m 0) - s * cts s m 0
    rw [Int.mul_sub, Int.mul_comm s]
    omega
  | m, k + 1 => by
    rw [sumN_s, cts_sum m k]
    conv => rhs; rw [sumN_s]
    have e : cts s (m + 1) (k + 1) = cts s m (k + 1) * (16 - s) + cts s m k * s := by
      rw [cts, if_neg (by omega), Nat.add_sub_cancel]
    rw [e, Int.mul_sub, Int.mul_comm s, Int.mul_comm s, Int.mul_add]
    omega
theorem cts_all {s : Int} : ∀ m, m ≤ 12 → sumN (cts s m) 13 = ((16 ^ m : Nat) : Int)
  | 0, _ => rfl
  | m + 1, h => by
    rw [cts_sum m 12, cts_all m (by omega), cts_0 m 12 (by omega), Nat.pow_succ]
    omega
theorem pow16 : ∀ m, m ≤ 12 → 16 ^ m ≤ 281474976710656 := by decide
theorem cts_far {s : Int} {n k : Nat} (hk : n < k) : sumN (cts s n) k = sumN (cts s n) (n + 1) := by
  obtain ⟨r, rfl⟩ := Nat.exists_eq_add_of_le (show n + 1 ≤ k by omega)
  induction r with
  | zero => rfl
  | succ r ih => rw [← Nat.add_assoc, sumN_s, ih (by omega), cts_0 n _ (by omega), Int.add_zero]
theorem cts_sbd {s : Int} (hs : 0 ≤ s ∧ s ≤ 16) {n : Nat} (hn : n ≤ 12) : ∀ k, k ≤ 13 → 0 ≤ sumN (cts s n) k ∧ sumN (cts s n) k ≤ ((16 ^ n : Nat) : Int) := fun k hk => by
  have mono : ∀ r j, j + r = 13 → sumN (cts s n) j ≤ sumN (cts s n) 13 := by
    intro r
    induction r with
    | zero => intro j hj; rw [show j = 13 by omega]; exact Int.le_refl _
    | succ r ih =>
      intro j hj
      have := ih (j + 1) (by omega)
      rw [sumN_s] at this
      have := (cts_bd hs n j).1
      omega
  have a := mono (13 - k) k (by omega)
  rw [cts_all n hn] at a
  exact ⟨(sumN_bd (B := ((16 ^ n : Nat) : Int)) (fun j _ => cts_bd hs n j)).1, a⟩
theorem shl16 : ∀ n, n ≤ 12 → fLshl 1 (4 * ((n : Nat) : Int)) = ((16 ^ n : Nat) : Int) := by decide +kernel
section
variable {xs : List Int} {d : Nat} {h : mM} {b : Nat}
theorem t_glRow (hb : b = 125 ∨ b = 127) {s : Int} (hs : 0 ≤ s ∧ s ≤ 16) {m : Nat} (hm : m < 12) (x1 : Int) (f : ∀ j : Nat, j ≤ 12 → h (b + 1) j = cts s m j) : ∃ h', X xs d k_Gl_taste 30 [mR b, mI x1, mI s, mI ((m : Int) + 1), mI ((m : Int) + 1)] [] h = X xs d k_Gl_taste 24 [mR b, mI x1, mI s, mI ((m : Int) + 1 + 1), mI 0] [] h' ∧ (∀ j : Nat, j ≤ 12 → h' (b + 1) j = cts s (m + 1) j) ∧ Ow [b + 1] h h' := by
  have p16 := pow16 (m + 1) (by omega)
  rw [Nat.pow_succ] at p16
  have key : ∀ (wm : Nat) (g : mM), wm ≤ m + 1 → (∀ j : Nat, j ≤ 12 → g (b + 1) j = if j ≤ wm then cts s m j else cts s (m + 1) j) → Ow [b + 1] h g → ∃ h', X xs d k_Gl_taste 30 [mR b, mI x1, mI s, mI ((m : Int) + 1), mI (wm : Int)] [] g = X xs d k_Gl_taste 24 [mR b, mI x1, mI s, mI ((m : Int) + 1 + 1), mI 0] [] h' ∧ (∀ j : Nat, j ≤ 12 → h' (b + 1) j = cts s (m + 1) j) ∧ Ow [b + 1] h h' := by
    intro wm
    induction wm with
    | zero =>
      intro g hw fg og
      have c0 := cts_bd hs m 0
      have m0 := mul_bd c0.1 c0.2 (show 0 ≤ 16 - s by omega) (show 16 - s ≤ 16 by omega)
      have e0 : g (b + 1) 0 = cts s m 0 := by have := fg 0 (by omega); rw [if_pos (by omega)] at this; exact this
      have e1 : cts s (m + 1) 0 = cts s m 0 * (16 - s) := by rw [cts, if_pos rfl, Int.add_zero]
      refine ⟨upM g (b + 1) 0 (cts s m 0 * (16 - s)), ?_, fun j hj => ?_, og.up (by simp)⟩
      · rw [e_Gl_taste_30 xs d _ _ _ _ hb, e0]
        refine if_n (by omega) ?_
        refine if_y (by omega) ?_
        refine if_y (by omega) ?_
        refine if_y (by omega) ?_
        rfl
      · rw [up_at]
        by_cases z : j = 0
        · subst z
          rw [e1]
          exact if_pos rfl
        · rw [if_neg (by omega), fg j hj, if_neg (by omega)]
    | succ wm ih =>
      intro g hw fg og
      have c0 := cts_bd hs m (wm + 1)
      have c1 := cts_bd hs m wm
      have m0 := mul_bd c0.1 c0.2 (show 0 ≤ 16 - s by omega) (show 16 - s ≤ 16 by omega)
      have m1 := mul_bd c1.1 c1.2 (show 0 ≤ s by omega) hs.2
      have e0 : g (b + 1) ((wm + 1 : Nat) : Int) = cts s m (wm + 1) := by rw [fg (wm + 1) (by omega), if_pos (by omega)]
      have e1 : g (b + 1) (((wm + 1 : Nat) : Int) - 1) = cts s m wm := by
        rw [show ((wm + 1 : Nat) : Int) - 1 = (wm : Int) by omega, fg wm (by omega), if_pos (by omega)]
      have e2 : cts s (m + 1) (wm + 1) = cts s m (wm + 1) * (16 - s) + cts s m wm * s := by rw [cts, if_neg (by omega), Nat.add_sub_cancel]
      obtain ⟨h', r1, r2⟩ := ih (upM g (b + 1) ((wm + 1 : Nat) : Int) (cts s m (wm + 1) * (16 - s) + cts s m wm * s)) (by omega) (fun j hj => by
        rw [up_at]
        by_cases z : j = wm + 1
        · subst z
          rw [if_pos rfl, if_neg (by omega), e2]
        · rw [if_neg (by omega), fg j hj]
          by_cases y : j ≤ wm
          · rw [if_pos y, if_pos (by omega)]
          · rw [if_neg y, if_neg (by omega)]) (og.up (by simp))
      refine ⟨h', ?_, r2⟩
      rw [e_Gl_taste_30 xs d _ _ _ _ hb, e0, e1]
      refine if_y (by omega) ?_
      refine if_y (by omega) ?_
      refine if_y (by omega) ?_
      refine if_y (by omega) ?_
      refine if_y (by omega) ?_
      refine if_y (by omega) ?_
      refine if_y (by omega) ?_
      refine if_y (by omega) ?_
      refine if_y (by omega) ?_
      refine if_y (by omega) ?_
      rw [show ((wm + 1 : Nat) : Int) + (-1) = (wm : Int) by omega]
      exact r1
  exact key (m + 1) h (by omega) (fun j hj => by
    rw [f j hj]
    by_cases z : j ≤ m + 1
    · rw [if_pos z]
    · rw [if_neg z, cts_0 m j (by omega), cts_0 (m + 1) j (by omega)]) Ow.rf
theorem t_taste (hb : b = 125 ∨ b = 127) {s : Int} (hs : 0 ≤ s ∧ s ≤ 16) {n : Nat} (hn : n ≤ 12) : ∃ h', C xs d 265 0 [mR b, mI (n : Int), mI s] h = some ([], h') ∧ h' b 1 = (n : Int) ∧ (∀ j : Nat, j ≤ 12 → h' (b + 1) j = cts s n j) ∧ Ow [b, b + 1] h h' := by
  rw [c_Gl_taste xs d hb, show min (n : Int) 12 = (n : Int) by omega]
  have z1 : X xs d k_Gl_taste 7 [mR b, mI (n : Int), mI s, mI 0, mC 0] [] (upM h b 1 (n : Int)) = X xs d k_Gl_taste 24 [mR b, mI (n : Int), mI s, mI 1, mC 0] [] (upM (rowU (upM h b 1 (n : Int)) (b + 1) 13 (fun _ => 0)) (b + 1) 0 1) := by
    have st : ∀ i : Nat, i < 13 → X xs d k_Gl_taste 7 [mR b, mI (n : Int), mI s, mI (i : Int), mC 0] [] (rowU (upM h b 1 (n : Int)) (b + 1) i (fun _ => 0)) = X xs d k_Gl_taste 7 [mR b, mI (n : Int), mI s, mI ((i + 1 : Nat) : Int), mC 0] [] (rowU (upM h b 1 (n : Int)) (b + 1) ((i + 1 : Nat) : Int) (fun _ => 0)) := by
      intro i hi
      rw [e_Gl_taste_7 xs d _ _ _ hb]
      refine if_n (by omega) ?_
      refine if_y (by omega) ?_
      refine if_y (by omega) ?_
      rw [rowU_up (by omega) rfl]
      rfl
    refine (congrArg (fun g => X xs d k_Gl_taste 7 [mR b, mI (n : Int), mI s, mI 0, mC 0] [] g) (rowU_0 (h := upM h b 1 (n : Int)) (a := b + 1) (f := fun _ => 0)).symm).trans ?_
    refine (run_to (fun i : Nat => X xs d k_Gl_taste 7 [mR b, mI (n : Int), mI s, mI (i : Int), mC 0] [] (rowU (upM h b 1 (n : Int)) (b + 1) i (fun _ => 0))) st).trans ?_
    show X xs d k_Gl_taste 7 [mR b, mI (n : Int), mI s, mI 13, mC 0] [] _ = _
    rw [e_Gl_taste_7 xs d _ _ _ hb, if_pos (by omega)]
    rfl
  generalize hg : upM (rowU (upM h b 1 (n : Int)) (b + 1) 13 (fun _ => 0)) (b + 1) 0 1 = g at z1
  have g1 : g b 1 = (n : Int) := by rw [← hg, up_row (by omega), rowU_ne (by omega), up_eq]
  have g0 : ∀ j : Nat, j ≤ 12 → g (b + 1) j = cts s 0 j := fun j hj => by
    rw [← hg, up_at]
    unfold cts
    by_cases z : j = 0
    · rw [if_pos z, if_pos (by omega)]
    · rw [if_neg z, if_neg (by omega), rowU_in (by omega)]
  have og : Ow [b, b + 1] h g := by
    rw [← hg]
    exact ((Ow.rf.up (by simp)).row (by simp)).up (by simp)
  have key : ∀ (r m : Nat) (g : mM) (x4 : mv), m + r = n → g b 1 = (n : Int) → (∀ j : Nat, j ≤ 12 → g (b + 1) j = cts s m j) → Ow [b, b + 1] h g → ∃ h', X xs d k_Gl_taste 24 [mR b, mI (n : Int), mI s, mI ((m : Int) + 1), x4] [] g = some ([], h') ∧ h' b 1 = (n : Int) ∧ (∀ j : Nat, j ≤ 12 → h' (b + 1) j = cts s n j) ∧ Ow [b, b + 1] h h' := by
    intro r
    induction r with
    | zero =>
      intro m g x4 hm g1 gf og
      obtain rfl : m = n := by omega
      refine ⟨g, ?_, g1, gf, og⟩
      rw [e_Gl_taste_24 xs d _ _ _ _ hb, g1, if_pos (by omega)]
    | succ r ih =>
      intro m g x4 hm g1 gf og
      obtain ⟨g2, r1, r2, r3⟩ := t_glRow (xs := xs) (d := d) hb hs (m := m) (by omega) (n : Int) gf
      have e : g2 b = g b := r3 b (by simp)
      obtain ⟨h', u1, u2⟩ := ih (m + 1) g2 (mI 0) (by omega) (by rw [e]; exact g1) r2 (og.tr (N := [b, b + 1]) r3 (fun a z => z) (by simp))
      refine ⟨h', ?_, u2⟩
      rw [e_Gl_taste_24 xs d _ _ _ _ hb, g1, if_neg (by omega)]
      refine r1.trans ?_
      exact u1
  obtain ⟨h', u1, u2⟩ := key n 0 g (mC 0) (by omega) g1 g0 og
  exact ⟨h', z1.trans u1, u2⟩
/-- cells of one tasting -/
def Tst (b : Nat) (s : Int) (n : Nat) (h : mM) : Prop := h b 1 = (n : Int) ∧ ∀ j : Nat, j ≤ 12 → h (b + 1) j = cts s n j
theorem t_all (hb : b = 125 ∨ b = 127) {s : Int} {n : Nat} (hn : n ≤ 12) (t : Tst b s n h) : C xs d 266 0 [mR b] h = some ([mL ((16 ^ n : Nat) : Int)], h) := by
  rw [c_Gl_all xs d hb, t.1]
  refine if_y (by omega) ?_
  rw [shl16 n hn]
theorem t_below (hb : b = 125 ∨ b = 127) {s : Int} (hs : 0 ≤ s ∧ s ≤ 16) {n : Nat} (hn : n ≤ 12) (t : Tst b s n h) {k : Nat} (hk : k ≤ 13) : C xs d 267 0 [mR b, mI (k : Int)] h = some ([mL (sumN (cts s n) k)], h) := by
  rw [c_Gl_below xs d hb]
  have p16 := pow16 n hn
  have key : ∀ (r i : Nat), i + r = k → i ≤ n + 1 → X xs d k_Gl_below 4 [mR b, mI (k : Int), mL (sumN (cts s n) i), mC 0, mI (i : Int)] [] h = some ([mL (sumN (cts s n) k)], h) := by
    intro r
    induction r with
    | zero =>
      intro i hi h1
      rw [e_Gl_below_4 xs d _ _ _ hb, if_neg (by omega), show i = k by omega]
    | succ r ih =>
      intro i hi h1
      rw [e_Gl_below_4 xs d _ _ _ hb, t.1]
      refine if_y (by omega) ?_
      by_cases q : (n : Int) < (i : Int)
      · rw [if_pos q, cts_far (k := k) (by omega), show i = n + 1 by omega]
      · rw [if_neg q]
        have s1 := cts_sbd hs hn (i + 1) (by omega)
        have nx := ih (i + 1) (by omega) (by omega)
        rw [sumN_s] at s1 nx
        rw [t.2 i (by omega)]
        refine if_y (by omega) ?_
        refine if_y (by omega) ?_
        refine if_y (by omega) ?_
        exact nx
  exact key k 0 (by omega) (by omega)
theorem t_from {s : Int} (hs : 0 ≤ s ∧ s ≤ 16) {n : Nat} (hn : n ≤ 12) (t : Tst 127 s n h) {k : Nat} (hk : k ≤ 13) : C xs d 268 0 [mR 127, mI (k : Int)] h = some ([mL (((16 ^ n : Nat) : Int) - sumN (cts s n) k)], h) := by
  have p16 := pow16 n hn
  have sb := cts_sbd hs hn k hk
  rw [c_Gl_from]
  refine cL_of (t_all (by omega) hn t) ?_
  refine cL_of (t_below (by omega) hs hn t hk) ?_
  refine if_y (by omega) ?_
  rfl
theorem m_atLeast {s : Int} (hs : 0 ≤ s ∧ s ≤ 16) {n : Nat} (hn : n ≤ 12) {k : Nat} (hk : k ≤ 13) : ∃ h', C xs d 198 0 [mR 130, mI (n : Int), mI (k : Int), mI s] h = some ([mL (((16 ^ n : Nat) : Int) - sumN (cts s n) k)], h') ∧ Ow [146] h h' := by
  have p16n := pow16 n hn
  rw [c_M_atLeast]
  have z1 : ∃ g, X xs d k_M_atLeast 2 [mR 130, mI (n : Int), mI (k : Int), mI s, mI 0, mC 0, mC 0] [] h = X xs d k_M_atLeast 18 [mR 130, mI (n : Int), mI (k : Int), mI s, mI 0, mC 0, mC 0] [] g ∧ (∀ j : Nat, j ≤ 12 → g 146 j = cts s 0 j) ∧ Ow [146] h g := by
    have key : ∀ (r i : Nat) (g : mM), i + r = 13 → (∀ j : Nat, j < i → g 146 j = cts s 0 j) → Ow [146] h g → ∃ g', X xs d k_M_atLeast 2 [mR 130, mI (n : Int), mI (k : Int), mI s, mI (i : Int), mC 0, mC 0] [] g = X xs d k_M_atLeast 18 [mR 130, mI (n : Int), mI (k : Int), mI s, mI 0, mC 0, mC 0] [] g' ∧ (∀ j : Nat, j ≤ 12 → g' 146 j = cts s 0 j) ∧ Ow [146] h g' := by
      intro r
      induction r with
      | zero =>
        intro i g hi gf og
        refine ⟨g, ?_, fun j hj => gf j (by omega), og⟩
        rw [e_M_atLeast_2, if_neg (by omega)]
      | succ r ih =>
        intro i g hi gf og
        obtain ⟨g', u1, u2⟩ := ih (i + 1) (upM g 146 (i : Int) (cts s 0 i)) (by omega) (fun j hj => by
          rw [up_at]
          by_cases z : j = i
          · subst z; rw [if_pos rfl]
          · rw [if_neg (by omega)]; exact gf j (by omega)) (og.up (by simp))
        refine ⟨g', ?_, u2⟩
        rw [e_M_atLeast_2]
        refine if_y (by omega) ?_
        by_cases z : (i : Int) = 0
        · rw [if_pos z, e_M_atLeast_13]
          refine if_y (by omega) ?_
          refine if_y (by omega) ?_
          have : cts s 0 i = 1 := by unfold cts; rw [if_pos (by omega)]
          rw [this] at u1
          exact u1
        · rw [if_neg z, e_M_atLeast_13]
          refine if_y (by omega) ?_
          refine if_y (by omega) ?_
          have : cts s 0 i = 0 := by unfold cts; rw [if_neg (by omega)]
          rw [this] at u1
          exact u1
    exact key 13 0 h (by omega) (fun j hj => by omega) Ow.rf
  obtain ⟨g, z1, z2, z3⟩ := z1
  have row : ∀ (m : Nat), m < 12 → ∀ (g : mM), (∀ j : Nat, j ≤ 12 → g 146 j = cts s m j) → Ow [146] h g → ∃ g', X xs d k_M_atLeast 23 [mR 130, mI (n : Int), mI (k : Int), mI s, mI (m : Int), mI 12, mC 0] [] g = X xs d k_M_atLeast 18 [mR 130, mI (n : Int), mI (k : Int), mI s, mI ((m : Int) + 1), mI (-1), mC 0] [] g' ∧ (∀ j : Nat, j ≤ 12 → g' 146 j = cts s (m + 1) j) ∧ Ow [146] h g' := by
    intro m hm g gf og
    have p16 := pow16 (m + 1) (by omega)
    rw [Nat.pow_succ] at p16
    have key : ∀ (wm : Nat) (g : mM), wm ≤ 13 → (∀ j : Nat, j ≤ 12 → g 146 j = if j < wm then cts s m j else cts s (m + 1) j) → Ow [146] h g → ∃ g', X xs d k_M_atLeast 23 [mR 130, mI (n : Int), mI (k : Int), mI s, mI (m : Int), mI ((wm : Int) - 1), mC 0] [] g = X xs d k_M_atLeast 18 [mR 130, mI (n : Int), mI (k : Int), mI s, mI ((m : Int) + 1), mI (-1), mC 0] [] g' ∧ (∀ j : Nat, j ≤ 12 → g' 146 j = cts s (m + 1) j) ∧ Ow [146] h g' := by
      intro wm
      induction wm with
      | zero =>
        intro g hw fg og
        refine ⟨g, ?_, fun j hj => by rw [fg j hj, if_neg (by omega)], og⟩
        rw [e_M_atLeast_23]
        refine if_y (by omega) ?_
        refine if_y (by omega) ?_
        rfl
      | succ wm ih =>
        intro g hw fg og
        have c0 := cts_bd hs m wm
        have c1 := cts_bd hs m (wm - 1)
        have m0 := mul_bd c0.1 c0.2 (show 0 ≤ 16 - s by omega) (show 16 - s ≤ 16 by omega)
        have m1 := mul_bd c1.1 c1.2 (show 0 ≤ s by omega) hs.2
        have cn := cts_bd hs (m + 1) wm
        have pe : ((16 ^ (m + 1) : Nat) : Int) ≤ 281474976710656 := by rw [Nat.pow_succ]; omega
        have e0 : g 146 (wm : Int) = cts s m wm := by rw [fg wm (by omega), if_pos (by omega)]
        obtain ⟨g', r1, r2⟩ := ih (upM g 146 (wm : Int) (cts s (m + 1) wm)) (by omega) (fun j hj => by
          rw [up_at]
          by_cases z : j = wm
          · subst z
            rw [if_pos rfl, if_neg (by omega)]
          · rw [if_neg (by omega), fg j hj]
            by_cases y : j < wm
            · rw [if_pos y, if_pos (by omega)]
            · rw [if_neg y, if_neg (by omega)]) (og.up (by simp))
        refine ⟨g', ?_, r2⟩
        rw [cts] at r1 cn
        rw [show ((wm + 1 : Nat) : Int) - 1 = (wm : Int) by omega, e_M_atLeast_23, e0]
        refine if_n (by omega) ?_
        refine if_y (by omega) ?_
        refine if_y (by omega) ?_
        refine if_y (by omega) ?_
        by_cases z : wm = 0
        · rw [if_pos (show (wm : Int) = 0 by omega), e_M_atLeast_50]
          rw [if_pos z] at r1 cn
          refine if_y (by omega) ?_
          refine if_y (by omega) ?_
          refine if_y (by omega) ?_
          exact r1
        · rw [if_neg (show ¬ (wm : Int) = 0 by omega)]
          rw [if_neg z] at r1 cn
          have e1 : g 146 ((wm : Int) - 1) = cts s m (wm - 1) := by
            rw [show (wm : Int) - 1 = ((wm - 1 : Nat) : Int) by omega, fg (wm - 1) (by omega), if_pos (by omega)]
          rw [e1]
          refine if_y (by omega) ?_
          refine if_y (by omega) ?_
          refine if_y (by omega) ?_
          rw [e_M_atLeast_50]
          refine if_y (by omega) ?_
          refine if_y (by omega) ?_
          refine if_y (by omega) ?_
          exact r1
    exact key 13 g (by omega) (fun j hj => by rw [gf j hj, if_pos (by omega)]) og
  have rows : ∀ (r m : Nat) (g : mM) (x5 : mv), m + r = n → (∀ j : Nat, j ≤ 12 → g 146 j = cts s m j) → Ow [146] h g → ∃ g' x5', X xs d k_M_atLeast 18 [mR 130, mI (n : Int), mI (k : Int), mI s, mI (m : Int), x5, mC 0] [] g = X xs d k_M_atLeast 60 [mR 130, mI (n : Int), mI (k : Int), mI s, mL 0, mC 0, mI (k : Int)] [] g' ∧ x5' = x5 ∧ (∀ j : Nat, j ≤ 12 → g' 146 j = cts s n j) ∧ Ow [146] h g' := by
    intro r
    induction r with
    | zero =>
      intro m g x5 hm gf og
      obtain rfl : m = n := by omega
      refine ⟨g, x5, ?_, rfl, gf, og⟩
      rw [e_M_atLeast_18, if_neg (by omega)]
    | succ r ih =>
      intro m g x5 hm gf og
      obtain ⟨g2, r1, r2, r3⟩ := row m (by omega) g gf og
      obtain ⟨g', x5', u1, u2, u3⟩ := ih (m + 1) g2 (mI (-1)) (by omega) r2 r3
      refine ⟨g', x5, ?_, rfl, u3⟩
      rw [e_M_atLeast_18, if_pos (by omega)]
      refine r1.trans ?_
      exact u1
  obtain ⟨g', _, u1, -, u3, u4⟩ := rows n 0 g (mC 0) (by omega) z2 z3
  refine ⟨g', z1.trans (u1.trans ?_), u4⟩
  have al := cts_all (s := s) n hn
  have st : ∀ (r i : Nat), i + r = 13 → k ≤ i → X xs d k_M_atLeast 60 [mR 130, mI (n : Int), mI (k : Int), mI s, mL (sumN (cts s n) i - sumN (cts s n) k), mC 0, mI (i : Int)] [] g' = some ([mL (((16 ^ n : Nat) : Int) - sumN (cts s n) k)], g') := by
    intro r
    induction r with
    | zero =>
      intro i hi h1
      rw [e_M_atLeast_60, if_neg (by omega), show i = 13 by omega, al]
    | succ r ih =>
      intro i hi h1
      have nx := ih (i + 1) (by omega) (by omega)
      have sb := cts_sbd hs hn (i + 1) (by omega)
      have sk := cts_sbd hs hn k hk
      rw [sumN_s] at nx sb
      have si := cts_sbd hs hn i (by omega)
      rw [e_M_atLeast_60, u3 i (by omega)]
      refine if_y (by omega) ?_
      refine if_y (by omega) ?_
      refine if_y (by omega) ?_
      refine if_y (by omega) ?_
      rw [show sumN (cts s n) i - sumN (cts s n) k + cts s n i = sumN (cts s n) i + cts s n i - sumN (cts s n) k by omega]
      exact nx
  have := st (13 - k) k (by omega) (Nat.le_refl _)
  rw [Int.sub_self] at this
  exact this
theorem m_waysOf {n : Nat} (hn : n ≤ 12) : C xs d 199 0 [mI (n : Int)] h = some ([mL ((16 ^ n : Nat) : Int)], h) := by
  rw [c_M_waysOf]
  have st : ∀ i : Nat, i < n → X xs d k_M_waysOf 4 [mI (n : Int), mL ((16 ^ i : Nat) : Int), mC 0, mI (i : Int)] [] h = X xs d k_M_waysOf 4 [mI (n : Int), mL ((16 ^ (i + 1) : Nat) : Int), mC 0, mI ((i + 1 : Nat) : Int)] [] h := by
    intro i hi
    have p16 := pow16 i (by omega)
    rw [e_M_waysOf_4, Nat.pow_succ]
    generalize 16 ^ i = P at p16 ⊢
    refine if_y (by omega) ?_
    refine if_y (by omega) ?_
    refine if_y (by omega) ?_
    rfl
  refine (run_to (fun i : Nat => X xs d k_M_waysOf 4 [mI (n : Int), mL ((16 ^ i : Nat) : Int), mC 0, mI (i : Int)] [] h) st).trans ?_
  rw [e_M_waysOf_4, if_neg (by omega)]
end
section
variable {xs : List Int} {d : Nat} {c : Kc} {h : mM}
def glL : List Nat := [125, 126, 127, 128]
theorem t_tasteBoth (k : CoT 12 c h) (w : WfC c) {n : Nat} (hn : n ≤ 12) : ∃ h', C xs d 57 0 [mR 0, mI (n : Int)] h = some ([], h') ∧ Tst 125 (c 2 1) n h' ∧ Tst 127 (c 2 2) n h' ∧ Ow glL h h' := by
  obtain ⟨g1, a1, a2, a3, a4⟩ := t_taste (xs := xs) (d := d) (h := h) (b := 125) (by omega) w.2.2.1 hn
  obtain ⟨g2, b1, b2, b3, b4⟩ := t_taste (xs := xs) (d := d) (h := g1) (b := 127) (by omega) w.2.2.2.1 hn
  refine ⟨g2, ?_, ⟨?_, fun j hj => ?_⟩, ⟨b2, b3⟩, a4.tr (N := glL) b4 (by decide) (by decide)⟩
  · rw [c_T_tasteBoth, show h 13 1 = c 2 1 from k.r 1 (by omega) (by omega)]
    refine cV_of (a1) ?_
    rw [a4 13 (by decide), show h 13 2 = c 2 2 from k.r 2 (by omega) (by omega)]
    refine cV_of (b1) ?_
    rfl
  · rw [b4 125 (by decide)]; exact a2
  · rw [b4 (125 + 1) (by decide)]; exact a3 j hj
/-- both errors of a cut, in all the ways -/
def erF (c : Kc) (n k : Nat) : Int := sumN (cts (c 2 1) n) k
def erS (c : Kc) (n k : Nat) : Int := ((16 ^ n : Nat) : Int) - sumN (cts (c 2 2) n) k
theorem er_bd (w : WfC c) {n k : Nat} (hn : n ≤ 12) (hk : k ≤ 13) : (0 ≤ erF c n k ∧ erF c n k ≤ 281474976710656) ∧ 0 ≤ erS c n k ∧ erS c n k ≤ 281474976710656 := by
  have p16 := pow16 n hn
  have a := cts_sbd w.2.2.1 hn k hk
  have b := cts_sbd w.2.2.2.1 hn k hk
  unfold erF erS
  generalize 16 ^ n = P at *
  omega
theorem m_errorOf (k : CoM c h) (w : WfC c) {n j : Nat} (hn : n ≤ 12) (hj : j ≤ 13) {x : Int} : ∃ h', C xs d 200 0 [mR 130, mI (n : Int), mI (j : Int), mI x] h = some ([mL (if x = 0 then erF c n j else erS c n j)], h') ∧ Ow [146] h h' := by
  have p16 := pow16 n hn
  rw [c_M_errorOf]
  by_cases q : x = 0
  · rw [if_pos q, if_pos q]
    obtain ⟨g, a1, a2⟩ := m_atLeast (xs := xs) (d := d) (h := h) w.2.2.1 hn hj
    have b := cts_sbd w.2.2.1 hn j hj
    refine ⟨g, ?_, a2⟩
    refine cL_of (m_waysOf hn) ?_
    rw [k.r 1 (by omega) (by omega)]
    refine cL_of (a1) ?_
    unfold erF
    generalize 16 ^ n = P at *
    refine if_y (by omega) ?_
    rw [show (P : Int) - ((P : Int) - sumN (cts (c 2 1) n) j) = sumN (cts (c 2 1) n) j by omega]
  · rw [if_neg q, if_neg q, k.r 2 (by omega) (by omega)]
    obtain ⟨g, a1, a2⟩ := m_atLeast (xs := xs) (d := d) (h := h) w.2.2.2.1 hn hj
    refine ⟨g, ?_, a2⟩
    refine cL_of (a1) ?_
    rfl
theorem q_error (R : Rel h) (x y z : Int) : QI xs d h 53 201 [mI x, mI y, mI z] := by
  obtain ⟨c, k⟩ := R.co
  have kT := k.1
  have kM := CoM.z.mp k.2.1
  have w := k.2.2.1
  by_cases q1 : 0 ≤ x ∧ x ≤ 12
  rotate_left
  · refine QI.ans R 1 0 ?_ ?_
    · rw [c_T_error]
      refine cI_of (t_within) ?_
      refine if_y (b2i_0.mpr q1) ?_
      refine cI_of (c_T_deny xs d _ _) ?_
      refine if_y (by omega) ?_
      rfl
    · rw [c_M_error]
      refine cI_of (m_isFrom) ?_
      refine if_y (b2i_0.mpr q1) ?_
      refine cI_of (m_isNo (by omega)) ?_
      refine if_y (by omega) ?_
      rfl
  by_cases q2 : 0 ≤ y ∧ y ≤ 13
  rotate_left
  · refine QI.ans R 1 0 ?_ ?_
    · rw [c_T_error]
      refine cI_of (t_within) ?_
      refine if_n ((fun z => b2i_0.mp z q1)) ?_
      refine cI_of (t_within) ?_
      refine if_y (b2i_0.mpr q2) ?_
      refine cI_of (c_T_deny xs d _ _) ?_
      refine if_y (by omega) ?_
      rfl
    · rw [c_M_error]
      refine cI_of (m_isFrom) ?_
      refine if_n ((fun z => b2i_0.mp z q1)) ?_
      refine cI_of (m_isFrom) ?_
      refine if_y (b2i_0.mpr q2) ?_
      refine cI_of (m_isNo (by omega)) ?_
      refine if_y (by omega) ?_
      rfl
  by_cases q3 : 0 ≤ z ∧ z ≤ 1
  rotate_left
  · refine QI.ans R 1 0 ?_ ?_
    · rw [c_T_error]
      refine cI_of (t_within) ?_
      refine if_n ((fun z => b2i_0.mp z q1)) ?_
      refine cI_of (t_within) ?_
      refine if_n ((fun z => b2i_0.mp z q2)) ?_
      refine cI_of (t_within) ?_
      refine if_y (b2i_0.mpr q3) ?_
      refine cI_of (c_T_deny xs d _ _) ?_
      refine if_y (by omega) ?_
      rfl
    · rw [c_M_error]
      refine cI_of (m_isFrom) ?_
      refine if_n ((fun z => b2i_0.mp z q1)) ?_
      refine cI_of (m_isFrom) ?_
      refine if_n ((fun z => b2i_0.mp z q2)) ?_
      by_cases z1 : z < 0
      · rw [if_pos z1]
        refine cI_of (m_isNo (by omega)) ?_
        refine if_y (by omega) ?_
        rfl
      · rw [if_neg z1]
        refine if_y (by omega) ?_
        refine cI_of (m_isNo (by omega)) ?_
        refine if_y (by omega) ?_
        rfl
  obtain ⟨n, rfl⟩ : ∃ n : Nat, x = (n : Int) := ⟨x.toNat, by omega⟩
  obtain ⟨j, rfl⟩ : ∃ n : Nat, y = (n : Int) := ⟨y.toNat, by omega⟩
  have hn : n ≤ 12 := by omega
  have hj : j ≤ 13 := by omega
  obtain ⟨g1, a1, a2, a3, a4⟩ := t_tasteBoth (xs := xs) (d := d) kT w hn
  have bd := er_bd w hn hj
  have p16 := pow16 n hn
  have pp : 1 ≤ 16 ^ n := Nat.pow_pos (by omega)
  obtain ⟨P, hP⟩ : ∃ P : Nat, (if z = 0 then erF c n j else erS c n j) = (P : Int) := ⟨(if z = 0 then erF c n j else erS c n j).toNat, by split <;> omega⟩
  have hP2 : P < 2 ^ 90 := by
    have : (P : Int) ≤ 281474976710656 := by
      rw [← hP]
      split <;> omega
    omega
  have kT1 : CoT 12 c g1 := kT.mv (fun a h1 h2 => a4 a (by simp [glL]; omega))
  have kM1 : CoM c g1 := kM.mv (a4 131 (by decide))
  have t3 := t_tell (xs := xs) (d := d) (h := g1) (p := P) (w := 16 ^ n) hP2 pp
  generalize hG : upM (upM (upM g1 0 1 ((P / Nat.gcd (16 ^ n) P : Nat) : Int)) 0 2 ((16 ^ n / Nat.gcd (16 ^ n) P : Nat) : Int)) 0 0 0 = G at t3
  have kM3 : CoM c G := by rw [← hG]; exact kM1.z3 _ _ _
  obtain ⟨g2, b1, b2⟩ := m_errorOf (xs := xs) (d := d) kM3 w hn hj (x := z)
  rw [hP] at b1
  refine QI.mkTell R k 1 ((P / Nat.gcd (16 ^ n) P : Nat) : Int) ((16 ^ n / Nat.gcd (16 ^ n) P : Nat) : Int) (g1 := g1) (g2 := g2) ?_ kT1 (Keep.ow a4 (by decide)) ?_ (kM3.mv (b2 131 (by decide))) (hG ▸ Keep.ow1 b2 (by decide)) (fun a z1 z2 => by rw [b2.at a (by simp; omega), ← hG, up_row (by omega), up_row (by omega), up_row (by omega)]) (by rw [hG]; exact b2 0 (by decide))
  · rw [hG, c_T_error]
    refine cI_of (t_within) ?_
    refine if_n ((fun z => b2i_0.mp z q1)) ?_
    refine cI_of (t_within) ?_
    refine if_n ((fun z => b2i_0.mp z q2)) ?_
    refine cI_of (t_within) ?_
    refine if_n ((fun z => b2i_0.mp z q3)) ?_
    refine cV_of (a1) ?_
    by_cases z0 : z = 0
    · rw [if_pos z0] at hP ⊢
      have e := t_below (xs := xs) (d := d) (b := 125) (by omega) w.2.2.1 hn a2 hj
      rw [show sumN (cts (c 2 1) n) j = (P : Int) from hP] at e
      refine cL_of (e) ?_
      refine cL_of (t_all (by omega) hn a2) ?_
      refine cI_of (t3) ?_
      refine if_y (by omega) ?_
      rfl
    · rw [if_neg z0] at hP ⊢
      have e := t_from (xs := xs) (d := d) w.2.2.2.1 hn a3 hj
      rw [show ((16 ^ n : Nat) : Int) - sumN (cts (c 2 2) n) j = (P : Int) from hP] at e
      refine cL_of (e) ?_
      refine cL_of (t_all (by omega) hn a2) ?_
      refine cI_of (t3) ?_
      refine if_y (by omega) ?_
      rfl
  · rw [hG, c_M_error]
    refine cI_of (m_isFrom) ?_
    refine if_n ((fun z => b2i_0.mp z q1)) ?_
    refine cI_of (m_isFrom) ?_
    refine if_n ((fun z => b2i_0.mp z q2)) ?_
    refine if_n (by omega) ?_
    refine if_n (by omega) ?_
    refine cL_of (b1) ?_
    refine cL_of (m_waysOf hn) ?_
    refine cI_of (m_tells pp) ?_
    refine if_y (by omega) ?_
    rfl
/-- the best cut up to one, and what it comes to -/
def ctB (c : Kc) (n : Nat) : Nat → Int × Int
  | 0 => (0, erF c n 0 + erS c n 0)
  | k + 1 => if erF c n (k + 1) + erS c n (k + 1) < (ctB c n k).2 then (((k + 1 : Nat) : Int), erF c n (k + 1) + erS c n (k + 1)) else ctB c n k
theorem q_cut (R : Rel h) (x : Int) : QI xs d h 54 202 [mI x] := by
  obtain ⟨c, k⟩ := R.co
  have kT := k.1
  have kM := CoM.z.mp k.2.1
  have w := k.2.2.1
  by_cases q1 : 0 ≤ x ∧ x ≤ 12
  rotate_left
  · refine QI.ans R 1 (-1) ?_ ?_
    · rw [c_T_cut]
      refine cI_of (t_within) ?_
      refine if_y (b2i_0.mpr q1) ?_
      refine cI_of (c_T_refuse xs d _ _) ?_
      rfl
    · rw [c_M_cut]
      refine cI_of (m_isFrom) ?_
      refine if_y (b2i_0.mpr q1) ?_
      refine cI_of (c_M_refuse xs d _ _) ?_
      rfl
  obtain ⟨n, rfl⟩ : ∃ n : Nat, x = (n : Int) := ⟨x.toNat, by omega⟩
  have hn : n ≤ 12 := by omega
  obtain ⟨g1, a1, a2, a3, a4⟩ := t_tasteBoth (xs := xs) (d := d) kT w hn
  have kT1 : CoT 12 c g1 := kT.mv (fun a h1 h2 => a4 a (by simp [glL]; omega))
  have tb : ∀ j : Nat, j ≤ 13 → C xs d 267 0 [mR 125, mI (j : Int)] g1 = some ([mL (erF c n j)], g1) := fun j hj => t_below (b := 125) (by omega) w.2.2.1 hn a2 hj
  have tf : ∀ j : Nat, j ≤ 13 → C xs d 268 0 [mR 127, mI (j : Int)] g1 = some ([mL (erS c n j)], g1) := fun j hj => t_from w.2.2.2.1 hn a3 hj
  have tl : C xs d 54 0 [mR 0, mI (n : Int)] h = some ([mI (ctB c n 13).1], upM g1 0 0 0) := by
    have key : ∀ (r j : Nat) (x6 : mv), j + r = 13 → X xs d k_T_cut 26 [mR 0, mI (n : Int), mI (ctB c n j).1, mL (ctB c n j).2, mC 0, mI ((j + 1 : Nat) : Int), x6, mC 0] [] g1 = some ([mI (ctB c n 13).1], upM g1 0 0 0) := by
      intro r
      induction r with
      | zero =>
        intro j x6 hj
        obtain rfl : j = 13 := by omega
        rw [e_T_cut_26, if_pos (by omega)]
        refine cI_of (c_T_answer xs d _ _) ?_
        rfl
      | succ r ih =>
        intro j x6 hj
        have bd := er_bd w hn (k := j + 1) (by omega)
        have nx := ih (j + 1) (mL (erF c n (j + 1) + erS c n (j + 1))) (by omega)
        rw [ctB] at nx
        rw [e_T_cut_26, if_neg (by omega)]
        refine cL_of (tb (j + 1) (by omega)) ?_
        refine cL_of (tf (j + 1) (by omega)) ?_
        refine if_y (by omega) ?_
        by_cases z : erF c n (j + 1) + erS c n (j + 1) < (ctB c n j).2
        · rw [if_pos z] at nx ⊢
          rw [e_T_cut_47]
          refine if_y (by omega) ?_
          exact nx
        · rw [if_neg z] at nx ⊢
          rw [e_T_cut_47]
          refine if_y (by omega) ?_
          exact nx
    have bd := er_bd w hn (k := 0) (by omega)
    rw [c_T_cut]
    refine cI_of (t_within) ?_
    refine if_n ((fun z => b2i_0.mp z q1)) ?_
    refine cV_of (a1) ?_
    refine cL_of (tb 0 (by omega)) ?_
    refine cL_of (tf 0 (by omega)) ?_
    refine if_y (by omega) ?_
    exact key 13 0 (mC 0) (by omega)
  have kM1 : CoM c (upM g1 0 0 0) := kM.mv (by rw [up_row (by omega), a4 131 (by decide)])
  have ml : ∃ g2, C xs d 202 0 [mR 130, mI (n : Int)] (upM g1 0 0 0) = some ([mI (ctB c n 13).1], upM g2 130 2 0) ∧ Ow [146] (upM g1 0 0 0) g2 := by
    have key : ∀ (r j : Nat) (x6 : mv) (g : mM), j + r = 13 → Ow [146] (upM g1 0 0 0) g → ∃ g2, X xs d k_M_cut 26 [mR 130, mI (n : Int), mI (ctB c n j).1, mL (ctB c n j).2, mC 0, mI ((j + 1 : Nat) : Int), x6, mC 0] [] g = some ([mI (ctB c n 13).1], upM g2 130 2 0) ∧ Ow [146] (upM g1 0 0 0) g2 := by
      intro r
      induction r with
      | zero =>
        intro j x6 g hj og
        obtain rfl : j = 13 := by omega
        refine ⟨g, ?_, og⟩
        rw [e_M_cut_26, if_pos (by omega)]
        refine cI_of (c_M_gives xs d _ _) ?_
        rfl
      | succ r ih =>
        intro j x6 g hj og
        have bd := er_bd w hn (k := j + 1) (by omega)
        have kg : CoM c g := kM1.mv (og 131 (by decide))
        obtain ⟨g3, u1, u2⟩ := m_errorOf (xs := xs) (d := d) kg w hn (j := j + 1) (by omega) (x := 0)
        have kg3 : CoM c g3 := kg.mv (u2 131 (by decide))
        obtain ⟨g4, v1, v2⟩ := m_errorOf (xs := xs) (d := d) kg3 w hn (j := j + 1) (by omega) (x := 1)
        rw [if_pos rfl] at u1
        rw [if_neg (by omega)] at v1
        obtain ⟨g2, nx, n2⟩ := ih (j + 1) (mL (erF c n (j + 1) + erS c n (j + 1))) g4 (by omega) ((og.tr (N := [146]) u2 (fun a z => z) (fun a z => z)).tr (N := [146]) v2 (fun a z => z) (fun a z => z))
        refine ⟨g2, ?_, n2⟩
        rw [ctB] at nx
        rw [e_M_cut_26, if_neg (by omega)]
        refine cL_of (u1) ?_
        refine cL_of (v1) ?_
        refine if_y (by omega) ?_
        by_cases z : erF c n (j + 1) + erS c n (j + 1) < (ctB c n j).2
        · rw [if_pos z] at nx ⊢
          rw [e_M_cut_50]
          refine if_y (by omega) ?_
          exact nx
        · rw [if_neg z] at nx ⊢
          rw [e_M_cut_50]
          refine if_y (by omega) ?_
          exact nx
    have bd := er_bd w hn (k := 0) (by omega)
    obtain ⟨g3, u1, u2⟩ := m_errorOf (xs := xs) (d := d) kM1 w hn (j := 0) (by omega) (x := 0)
    have kg3 : CoM c g3 := kM1.mv (u2 131 (by decide))
    obtain ⟨g4, v1, v2⟩ := m_errorOf (xs := xs) (d := d) kg3 w hn (j := 0) (by omega) (x := 1)
    rw [if_pos rfl] at u1
    rw [if_neg (by omega)] at v1
    obtain ⟨g2, nx, n2⟩ := key 13 0 (mC 0) g4 (by omega) (u2.tr (N := [146]) v2 (fun a z => z) (fun a z => z))
    refine ⟨g2, ?_, n2⟩
    rw [c_M_cut]
    refine cI_of (m_isFrom) ?_
    refine if_n ((fun z => b2i_0.mp z q1)) ?_
    refine cL_of (u1) ?_
    refine cL_of (v1) ?_
    refine if_y (by omega) ?_
    exact nx
  obtain ⟨g2, b1, b2⟩ := ml
  exact QI.mkU R k _ 0 (g1 := g1) (g2 := g2) tl kT1 (Keep.ow a4 (by decide)) b1 (kM1.mv (b2 131 (by decide))) (Keep.ow1 b2 (by decide)) (fun a z1 z2 => by rw [b2.at a (by simp; omega), up_row (by omega)]) (b2 0 (by decide)) w k.2.2.2.1 rfl
end
