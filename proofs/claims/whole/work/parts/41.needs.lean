/-! EQUIV 11: who can be lit -/
def useW (gl much g : Int) (s : Int × Int) : Int × Int := if s.1 < gl then (s.1 + min g ((gl - s.1 + much - 1) / much) * much, s.2 + min g ((gl - s.1 + much - 1) / much)) else s
theorem ceil_bd {a m : Int} (ha : 1 ≤ a) (hm : 1 ≤ m) : 1 ≤ (a + m - 1) / m ∧ ((a + m - 1) / m - 1) * m < a ∧ a ≤ (a + m - 1) / m * m := by
  have e := Int.mul_ediv_add_emod (a + m - 1) m
  have r1 := Int.emod_nonneg (a + m - 1) (show m ≠ 0 by omega)
  have r2 := Int.emod_lt_of_pos (a + m - 1) (show 0 < m by omega)
  have e2 : ((a + m - 1) / m - 1) * m = m * ((a + m - 1) / m) - m := by rw [Int.sub_mul, Int.one_mul, Int.mul_comm]
  have e3 : (a + m - 1) / m * m = m * ((a + m - 1) / m) := Int.mul_comm _ _
  refine ⟨?_, by omega, by omega⟩
  rw [Int.le_ediv_iff_mul_le (by omega)]
  omega
theorem mul_le_r {a b m : Int} (h : a ≤ b) (hm : 0 ≤ m) : a * m ≤ b * m := Int.mul_le_mul_of_nonneg_right h hm
theorem useW_bd {gl much g : Int} {s : Int × Int} (hg : 0 ≤ g) (h1 : 1 ≤ much ∧ much ≤ 180) (h2 : 1 ≤ gl ∧ gl ≤ 99) (h3 : 0 ≤ s.2 ∧ s.2 ≤ s.1 ∧ s.1 ≤ 279) : 0 ≤ (useW gl much g s).2 ∧ (useW gl much g s).2 ≤ (useW gl much g s).1 ∧ (useW gl much g s).1 ≤ 279 := by
  unfold useW
  split
  · next q =>
    obtain ⟨c1, c2, c3⟩ := ceil_bd (a := gl - s.1) (m := much) (by omega) h1.1
    have c0 : 0 ≤ min g ((gl - s.1 + much - 1) / much) := by omega
    have c4 : (min g ((gl - s.1 + much - 1) / much) - 1) * much ≤ ((gl - s.1 + much - 1) / much - 1) * much := mul_le_r (by omega) (by omega)
    have c5 : (min g ((gl - s.1 + much - 1) / much) - 1) * much = min g ((gl - s.1 + much - 1) / much) * much - much := by rw [Int.sub_mul, Int.one_mul]
    have c6 : min g ((gl - s.1 + much - 1) / much) * 1 ≤ min g ((gl - s.1 + much - 1) / much) * much := Int.mul_le_mul_of_nonneg_left h1.1 c0
    show 0 ≤ s.2 + _ ∧ s.2 + _ ≤ s.1 + _ ∧ s.1 + _ ≤ 279
    omega
  · exact h3
/-- whether one of the people warms him so much -/
abbrev isW (c : Kc) (p much : Int) (o : Nat) : Prop := c 7 (o : Int) = p ∧ warmI c (o : Int) = much
def inn (c : Kc) (p much : Int) : Nat → Int × Int → Int × Int
  | 0, s => s
  | k + 1, s => if isW c p much k then useW (c 2 3) much (c 6 (k : Int)) (inn c p much k s) else inn c p much k s
def outW (c : Kc) (p : Int) : Nat → Int × Int
  | 0 => (c 5 p, 0)
  | t + 1 => inn c p (180 - (t : Int)) (c 0 0).toNat (outW c p t)
def goodS (s : Int × Int) : Prop := 0 ≤ s.2 ∧ s.2 ≤ s.1 ∧ s.1 ≤ 279
section
variable {c : Kc} {p : Int}
theorem inn_good (w : WfC c) {much : Int} (hm : 1 ≤ much ∧ much ≤ 180) {s : Int × Int} (hs : goodS s) : ∀ k, k ≤ (c 0 0).toNat → goodS (inn c p much k s)
  | 0, _ => hs
  | k + 1, h => by
    rw [inn]
    split
    · exact useW_bd (w.2.2.2.2.2.2.2.2 k (by omega) (by omega)).2.2.2.1.1 hm w.2.2.2.2.1 (inn_good w hm hs k (by omega))
    · exact inn_good w hm hs k (by omega)
theorem outW_good (w : WfC c) (hp : 0 ≤ p ∧ p < c 0 0) : ∀ t, t ≤ 180 → goodS (outW c p t)
  | 0, _ => by
    have := (w.2.2.2.2.2.2.2.2 p hp.1 hp.2).2.2.1
    unfold goodS outW
    omega
  | t + 1, h => inn_good w (by omega) (outW_good w hp t (by omega)) _ (by omega)
theorem useW_done {gl much g : Int} {s : Int × Int} (h : gl ≤ s.1) : useW gl much g s = s := if_neg (by omega)
theorem inn_done {much : Int} {s : Int × Int} (h : c 2 3 ≤ s.1) : ∀ k, inn c p much k s = s
  | 0 => rfl
  | k + 1 => by
    rw [inn, inn_done h k, useW_done h]
    split <;> rfl
theorem inn_split {much : Int} {s : Int × Int} {k n : Nat} (hk : k ≤ n) (h : c 2 3 ≤ (inn c p much k s).1) : inn c p much n s = inn c p much k s := by
  obtain ⟨r, rfl⟩ := Nat.exists_eq_add_of_le hk
  induction r with
  | zero => rfl
  | succ r ih =>
    rw [← Nat.add_assoc, inn, ih (by omega), useW_done h]
    split <;> rfl
theorem outW_done {t : Nat} (h : c 2 3 ≤ (outW c p t).1) : ∀ m, t ≤ m → outW c p m = outW c p t := fun m hm => by
  obtain ⟨r, rfl⟩ := Nat.exists_eq_add_of_le hm
  induction r with
  | zero => rfl
  | succ r ih => rw [← Nat.add_assoc, outW, ih (by omega), inn_done h]
end
section
variable {xs : List Int} {d : Nat} {c : Kc} {h : mM} {p : Int}
theorem m_glasses (k : CoM c h) (w : WfC c) {o : Nat} (ho : (o : Int) < c 0 0) {much : Int} (hm : 1 ≤ much ∧ much ≤ 180) {s : Int × Int} (hs : goodS s) : ∃ x6, X xs d k_M_needsOf 32 [mR 130, mI p, mI s.1, mI s.2, mI much, mI (o : Int), mI 0] [] h = X xs d k_M_needsOf 51 [mR 130, mI p, mI (useW (c 2 3) much (c 6 (o : Int)) s).1, mI (useW (c 2 3) much (c 6 (o : Int)) s).2, mI much, mI (o : Int), x6] [] h := by
  have hn := w.1
  have hl := (w.2.2.2.2.2.2.2.2 o (by omega) (by omega)).2.2.2.1
  have hgl := w.2.2.2.2.1
  obtain ⟨s1, s2⟩ := s
  unfold goodS at hs
  simp only at hs ⊢
  unfold useW
  simp only
  have pOf : ∀ {g : mM}, CoM c g → C xs d 129 0 [mR 130, mI (o : Int), mI 3] g = some ([mI (c 6 (o : Int))], g) := fun kg => by
    rw [m_personOf (by omega) (by omega), kg.l _ (by omega) ho]
  by_cases q : s1 < c 2 3
  · rw [if_pos q]
    obtain ⟨c1, c2, c3⟩ := ceil_bd (a := c 2 3 - s1) (m := much) (by omega) hm.1
    generalize hu : min (c 6 (o : Int)) ((c 2 3 - s1 + much - 1) / much) = u
    obtain ⟨U, rfl⟩ : ∃ U : Nat, u = (U : Int) := ⟨u.toNat, by omega⟩
    have bd : ∀ j : Int, j ≤ (c 2 3 - s1 + much - 1) / much - 1 → s1 + j * much < c 2 3 := fun j hj => by
      have := mul_le_r (m := much) hj (by omega)
      omega
    have bd2 : ∀ j : Int, 0 ≤ j → j ≤ j * much := fun j hj => by
      have := Int.mul_le_mul_of_nonneg_left hm.1 hj
      omega
    have st : ∀ j : Nat, j < U → X xs d k_M_needsOf 32 [mR 130, mI p, mI (s1 + (j : Int) * much), mI (s2 + (j : Int)), mI much, mI (o : Int), mI (j : Int)] [] h = X xs d k_M_needsOf 32 [mR 130, mI p, mI (s1 + ((j + 1 : Nat) : Int) * much), mI (s2 + ((j + 1 : Nat) : Int)), mI much, mI (o : Int), mI ((j + 1 : Nat) : Int)] [] h := by
      intro j hj
      have b1 := bd j (by omega)
      have b2 := bd2 j (by omega)
      rw [e_M_needsOf_32]
      refine cI_of (pOf k) ?_
      refine if_y (by omega) ?_
      rw [k.r 3 (by omega) (by omega)]
      refine if_y (by omega) ?_
      refine if_y (by omega) ?_
      refine if_y (by omega) ?_
      refine if_y (by omega) ?_
      have e1 : s1 + ((j + 1 : Nat) : Int) * much = s1 + (j : Int) * much + much := by
        rw [Int.natCast_add, Int.add_mul]
        omega
      have e2 : s2 + ((j + 1 : Nat) : Int) = s2 + (j : Int) + 1 := by omega
      rw [e1, e2]
      rfl
    have r := run_to (fun j : Nat => X xs d k_M_needsOf 32 [mR 130, mI p, mI (s1 + (j : Int) * much), mI (s2 + (j : Int)), mI much, mI (o : Int), mI (j : Int)] [] h) st
    have e0 : s1 + ((0 : Nat) : Int) * much = s1 := by omega
    have e00 : s2 + ((0 : Nat) : Int) = s2 := by omega
    simp only [e0, e00] at r
    refine ⟨mI (U : Int), r.trans ?_⟩
    rw [e_M_needsOf_32]
    refine cI_of (pOf k) ?_
    by_cases z : (U : Int) < c 6 (o : Int)
    · rw [if_pos z, k.r 3 (by omega) (by omega)]
      have : (U : Int) = (c 2 3 - s1 + much - 1) / much := by omega
      rw [← this] at c3
      rw [if_neg (by omega)]
    · rw [if_neg z]
  · rw [if_neg q]
    refine ⟨mI 0, ?_⟩
    rw [e_M_needsOf_32]
    refine cI_of (pOf k) ?_
    rw [k.r 3 (by omega) (by omega), if_neg q]
    split <;> rfl
theorem m_inner (k : CoM c h) (w : WfC c) (hp : 0 ≤ p ∧ p < c 0 0) {much : Int} (hm : 1 ≤ much ∧ much ≤ 180) {s : Int × Int} (hs : goodS s) (x6 : mv) : ∃ x6', X xs d k_M_needsOf 13 [mR 130, mI p, mI s.1, mI s.2, mI much, mI 0, x6] [] h = X xs d k_M_needsOf 9 [mR 130, mI p, mI (inn c p much (c 0 0).toNat s).1, mI (inn c p much (c 0 0).toNat s).2, mI (much - 1), mI (c 0 0), x6'] [] h := by
  have hn := w.1
  have key : ∀ (m i : Nat) (x6 : mv), i + m = (c 0 0).toNat → ∃ x6', X xs d k_M_needsOf 13 [mR 130, mI p, mI (inn c p much i s).1, mI (inn c p much i s).2, mI much, mI (i : Int), x6] [] h = X xs d k_M_needsOf 9 [mR 130, mI p, mI (inn c p much (c 0 0).toNat s).1, mI (inn c p much (c 0 0).toNat s).2, mI (much - 1), mI (c 0 0), x6'] [] h := by
    intro m
    induction m with
    | zero =>
      intro i x6 hi
      refine ⟨x6, ?_⟩
      rw [e_M_needsOf_13, k.n, if_neg (by omega)]
      refine if_y (by omega) ?_
      rw [show i = (c 0 0).toNat by omega, show (((c 0 0).toNat : Nat) : Int) = c 0 0 by omega]
      rfl
    | succ m ih =>
      intro i x6 hi
      by_cases q : c 7 (i : Int) = p
      · by_cases q2 : warmI c (i : Int) = much
        · obtain ⟨x7, gl⟩ := m_glasses (xs := xs) (d := d) (p := p) k w (o := i) (by omega) hm (inn_good (p := p) w hm hs i (by omega))
          obtain ⟨x8, r⟩ := ih (i + 1) x7 (by omega)
          refine ⟨x8, ?_⟩
          rw [e_M_needsOf_13, k.n]
          refine if_y (by omega) ?_
          refine cI_of (m_whomOf k w (by omega)) ?_
          refine if_y (q) ?_
          refine cI_of (m_warmOf k w (by omega) (by omega)) ?_
          refine if_y (q2) ?_
          refine gl.trans ?_
          rw [e_M_needsOf_51]
          refine if_y (by omega) ?_
          rw [inn, if_pos ⟨q, q2⟩] at r
          exact r
        · obtain ⟨x8, r⟩ := ih (i + 1) x6 (by omega)
          refine ⟨x8, ?_⟩
          rw [e_M_needsOf_13, k.n]
          refine if_y (by omega) ?_
          refine cI_of (m_whomOf k w (by omega)) ?_
          refine if_y (q) ?_
          refine cI_of (m_warmOf k w (by omega) (by omega)) ?_
          refine if_n (q2) ?_
          rw [e_M_needsOf_51]
          refine if_y (by omega) ?_
          rw [inn, if_neg (fun z => q2 z.2)] at r
          exact r
      · obtain ⟨x8, r⟩ := ih (i + 1) x6 (by omega)
        refine ⟨x8, ?_⟩
        rw [e_M_needsOf_13, k.n]
        refine if_y (by omega) ?_
        refine cI_of (m_whomOf k w (by omega)) ?_
        refine if_n (q) ?_
        rw [e_M_needsOf_51]
        refine if_y (by omega) ?_
        rw [inn, if_neg (fun z => q z.1)] at r
        exact r
  exact key (c 0 0).toNat 0 x6 (by omega)
/-- what one needs; a far number: he cannot be lit -/
def needV (c : Kc) (p : Int) : Int := if (outW c p 180).1 < c 2 3 then 1000000 else (outW c p 180).2
theorem m_needsOf (k : CoM c h) (w : WfC c) (hp : 0 ≤ p ∧ p < c 0 0) : C xs d 177 0 [mR 130, mI p] h = some ([mI (needV c p)], h) := by
  have hn := w.1
  rw [c_M_needsOf]
  have a0 : C xs d 129 0 [mR 130, mI p, mI 2] h = some ([mI (c 5 p)], h) := by rw [m_personOf (by omega) (by omega), k.w _ hp.1 hp.2]
  refine cI_of (a0) ?_
  have key : ∀ (m t : Nat) (x5 x6 : mv), t + m = 180 → X xs d k_M_needsOf 9 [mR 130, mI p, mI (outW c p t).1, mI (outW c p t).2, mI (180 - (t : Int)), x5, x6] [] h = some ([mI (needV c p)], h) := by
    intro m
    induction m with
    | zero =>
      intro t x5 x6 ht
      obtain rfl : t = 180 := by omega
      rw [e_M_needsOf_9, if_neg (by omega), k.r 3 (by omega) (by omega)]
      unfold needV
      split <;> rfl
    | succ m ih =>
      intro t x5 x6 ht
      obtain ⟨x6', r⟩ := m_inner (xs := xs) (d := d) k w hp (much := 180 - (t : Int)) (by omega) (outW_good w hp t (by omega)) x6
      rw [e_M_needsOf_9, if_pos (by omega)]
      refine r.trans ?_
      have := ih (t + 1) (mI (c 0 0)) x6' (by omega)
      rw [show 180 - ((t + 1 : Nat) : Int) = 180 - (t : Int) - 1 by omega] at this
      exact this
  exact key 180 0 (mC 0) (mC 0) (by omega)
end
section
variable {xs : List Int} {d : Nat} {c : Kc} {h : mM} {p : Int}
def wmO (c : Kc) (q : Int) : Int := if c 7 q = -1 then 0 else warmI c q
/-- the first of the warmest of a set, of the first so many -/
def WmS (c : Kc) (x : Nat) (b m : Int) (n : Nat) : Prop := 0 ≤ m ∧ ((b = -1 ∧ m = 0 ∧ ∀ q : Nat, q < n → x.testBit q = true → wmO c q ≤ 0) ∨ ∃ B : Nat, b = (B : Int) ∧ B < n ∧ x.testBit B = true ∧ m = wmO c B ∧ 0 < m ∧ ∀ q : Nat, q < n → x.testBit q = true → wmO c q ≤ m ∧ (q < B → wmO c q < m))
theorem t_warmestOf (k : CoT 12 c h) (w : WfC c) {x : Nat} (hx : x < 128) : ∃ b m, C xs d 253 0 [mR 12, mI (x : Int)] h = some ([mI b], h) ∧ WmS c x b m (c 0 0).toNat := by
  have hn := w.1
  rw [c_Co_warmestOf]
  have key : ∀ (r i : Nat) (b m : Int), i + r = (c 0 0).toNat → WmS c x b m i → ∃ b' m', X xs d k_Co_warmestOf 6 [mR 12, mI (x : Int), mI b, mI m, mI (i : Int)] [] h = some ([mI b'], h) ∧ WmS c x b' m' (c 0 0).toNat := by
    intro r
    induction r with
    | zero =>
      intro i b m hi s
      refine ⟨b, m, ?_, (show i = (c 0 0).toNat by omega) ▸ s⟩
      rw [e_Co_warmestOf_6, k.n, if_neg (by omega)]
    | succ r ih =>
      intro i b m hi s
      have s1 := s.1
      have same : (x.testBit i = true → wmO c i ≤ m) → WmS c x b m (i + 1) := fun hm => by
        refine ⟨s1, ?_⟩
        rcases s.2 with ⟨a1, a2, a3⟩ | ⟨B, a1, a2, a3, a4, a5, a6⟩
        · refine Or.inl ⟨a1, a2, fun q hq hb => ?_⟩
          by_cases e : q = i
          · subst e; have := hm hb; omega
          · exact a3 q (by omega) hb
        · refine Or.inr ⟨B, a1, by omega, a3, a4, a5, fun q hq hb => ?_⟩
          by_cases e : q = i
          · subst e; exact ⟨hm hb, fun z => by omega⟩
          · exact a6 q (by omega) hb
      have wo := t_warmOf (xs := xs) (d := d) (b := 12) (by omega) k w (p := (i : Int)) (by omega)
      by_cases q : x.testBit i = true
      · by_cases q2 : m < wmO c i
        · obtain ⟨b', m', r1, r2⟩ := ih (i + 1) (i : Int) (wmO c i) (by omega) (by
            refine ⟨by omega, Or.inr ⟨i, rfl, by omega, q, rfl, by omega, fun t ht hb => ?_⟩⟩
            by_cases e : t = i
            · subst e; exact ⟨Int.le_refl _, fun z => by omega⟩
            · rcases s.2 with ⟨a1, a2, a3⟩ | ⟨B, a1, a2, a3, a4, a5, a6⟩
              · have := a3 t (by omega) hb; omega
              · have := (a6 t (by omega) hb).1; omega)
          refine ⟨b', m', ?_, r2⟩
          rw [e_Co_warmestOf_6, k.n]
          refine if_y (by omega) ?_
          rw [if_neg (by rw [and_b hx (by omega), q]; decide)]
          refine cI_of (wo) ?_
          rw [if_pos (show m < if c 7 (i : Int) = -1 then 0 else warmI c (i : Int) from q2)]
          refine cI_of (wo) ?_
          rw [e_Co_warmestOf_27]
          refine if_y (by omega) ?_
          exact r1
        · obtain ⟨b', m', r1, r2⟩ := ih (i + 1) b m (by omega) (same (fun _ => by omega))
          refine ⟨b', m', ?_, r2⟩
          rw [e_Co_warmestOf_6, k.n]
          refine if_y (by omega) ?_
          rw [if_neg (by rw [and_b hx (by omega), q]; decide)]
          refine cI_of (wo) ?_
          rw [if_neg (show ¬ m < if c 7 (i : Int) = -1 then 0 else warmI c (i : Int) from q2)]
          rw [e_Co_warmestOf_27]
          refine if_y (by omega) ?_
          exact r1
      · obtain ⟨b', m', r1, r2⟩ := ih (i + 1) b m (by omega) (same (fun z => absurd z q))
        refine ⟨b', m', ?_, r2⟩
        rw [Bool.not_eq_true] at q
        rw [e_Co_warmestOf_6, k.n]
        refine if_y (by omega) ?_
        rw [if_pos ((and_b hx (by omega)).mpr q)]
        rw [e_Co_warmestOf_27]
        refine if_y (by omega) ?_
        exact r1
  exact key (c 0 0).toNat 0 (-1) 0 (by omega) ⟨by omega, Or.inl ⟨rfl, rfl, fun q hq => by omega⟩⟩
theorem drop_bit : ∀ b, b < 7 → ∀ x, x < 128 → x.testBit b = true → bc (x &&& (127 - 2 ^ b)) + 1 = bc x := by decide +kernel
theorem and_lt128 {x y : Nat} (h : x < 128) : x &&& y < 128 := Nat.lt_of_le_of_lt Nat.and_le_left h
/-- who is left, behind all those that warm more, and so many of those that warm as much -/
def LeftW (c : Kc) (p : Int) (x : Nat) (t k : Nat) : Prop := x < 128 ∧ ∀ q : Nat, (q : Int) < c 0 0 → (x.testBit q = true → c 7 (q : Int) = p) ∧ (0 < warmI c q → c 7 (q : Int) = p → (x.testBit q = true ↔ warmI c q < 180 - (t : Int) ∨ warmI c q = 180 - (t : Int) ∧ k ≤ q))
def needT (c : Kc) (p : Int) : Int := if (outW c p 180).1 < c 2 3 then -1 else (outW c p 180).2
theorem needT_of {F : Int × Int} (hF : outW c p 180 = F) : needT c p = if F.1 < c 2 3 then -1 else F.2 := by
  subst hF
  rfl
theorem needV_of {F : Int × Int} (hF : outW c p 180 = F) : needV c p = if F.1 < c 2 3 then 1000000 else F.2 := by
  subst hF
  rfl
theorem t_done {i : Nat} {x : Int} {s : Int × Int} (h1 : c 2 3 ≤ s.1) (h2 : outW c p 180 = s) (x6 x7 x8 : mv) : X xs d k_Co_drinksTo 18 [mR 12, mI p, mI (c 2 3 - s.1), mI x, mI s.2, mI (i : Int), x6, x7, x8] [] h = some ([mI (needT c p)], h) := by
  have e : needT c p = s.2 := by rw [needT_of h2, if_neg (by omega)]
  rw [e_Co_drinksTo_18, e]
  by_cases q : (i : Int) < 7
  · rw [if_pos q, if_neg (by omega), if_neg (by omega)]
  · rw [if_neg q, if_neg (by omega)]
/-- from here on the class goes as the reference goes through all -/
def EndK (xs : List Int) (d : Nat) (c : Kc) (h : mM) (p : Int) (t : Nat) : Prop := ∀ (x i : Nat) (x6 x7 x8 : mv), LeftW c p x t 0 → i + bc x ≤ 7 → X xs d k_Co_drinksTo 18 [mR 12, mI p, mI (c 2 3 - (outW c p t).1), mI (x : Int), mI (outW c p t).2, mI (i : Int), x6, x7, x8] [] h = some ([mI (needT c p)], h)
theorem t_drinksEnd (k : CoT 12 c h) (w : WfC c) {T : Nat} (hT : T = 180) : EndK xs d c h p T := by
  have hn := w.1
  intro x i x6 x7 x8 lw hi
  generalize hF : outW c p T = F
  have hF' : outW c p 180 = F := by rw [← hT]; exact hF
  by_cases q : c 2 3 ≤ F.1
  · exact t_done q hF' x6 x7 x8
  · have e : needT c p = -1 := by rw [needT_of hF', if_pos (by omega)]
    rw [e]
    by_cases q2 : (i : Int) < 7
    · obtain ⟨b, v, r1, r2⟩ := t_warmestOf (xs := xs) (d := d) k w lw.1
      have hb : b = -1 := by
        rcases r2.2 with ⟨a1, _⟩ | ⟨B, a1, a2, a3, a4, a5, a6⟩
        · exact a1
        · exfalso
          have hq := (lw.2 B (by omega)).1 a3
          by_cases e1 : c 7 (B : Int) = -1
          · have : wmO c B = 0 := if_pos e1
            omega
          · have e2 : wmO c B = warmI c B := if_neg e1
            have := ((lw.2 B (by omega)).2 (by omega) hq).mp a3
            omega
      rw [e_Co_drinksTo_18]
      refine if_y (by omega) ?_
      rw [if_pos (by omega)]
      refine cI_of (r1) ?_
      refine if_y (hb) ?_
      rfl
    · rw [e_Co_drinksTo_18]
      refine if_n (by omega) ?_
      rw [if_pos (by omega)]
theorem t_drinksRow (k : CoT 12 c h) (w : WfC c) (hp : 0 ≤ p ∧ p < c 0 0) {t : Nat} (ht : t < 180) (nx : EndK xs d c h p (t + 1)) : ∀ (r n : Nat), n + r = (c 0 0).toNat → ∀ (x i : Nat) (x6 x7 x8 : mv), LeftW c p x t n → i + bc x ≤ 7 → X xs d k_Co_drinksTo 18 [mR 12, mI p, mI (c 2 3 - (inn c p (180 - (t : Int)) n (outW c p t)).1), mI (x : Int), mI (inn c p (180 - (t : Int)) n (outW c p t)).2, mI (i : Int), x6, x7, x8] [] h = some ([mI (needT c p)], h) := by
  have hn := w.1
  have hgl := w.2.2.2.2.1
  have gs0 := outW_good w hp t (by omega)
  intro r
  induction r with
  | zero =>
    intro n hr x i x6 x7 x8 lw hi
    have e1 : inn c p (180 - (t : Int)) n (outW c p t) = outW c p (t + 1) := by rw [outW, show n = (c 0 0).toNat by omega]
    rw [e1]
    exact nx x i x6 x7 x8 ⟨lw.1, fun q hq => ⟨(lw.2 q hq).1, fun h1 h2 => by
      rw [(lw.2 q hq).2 h1 h2]
      omega⟩⟩ hi
  | succ r ihr =>
    intro n hr x i x6 x7 x8 lw hi
    have gs := inn_good (p := p) w (much := 180 - (t : Int)) (by omega) gs0 n (by omega)
    by_cases q : isW c p (180 - (t : Int)) n
    · generalize hs : inn c p (180 - (t : Int)) n (outW c p t) = s at gs ⊢
      have hl := (w.2.2.2.2.2.2.2.2 n (by omega) (by omega)).2.2.2.1
      by_cases q2 : c 2 3 ≤ s.1
      · refine t_done q2 ?_ x6 x7 x8
        have e1 : outW c p (t + 1) = s := by
          rw [outW, inn_split (k := n) (by omega) (by rw [hs]; exact q2), hs]
        rw [outW_done (t := t + 1) (by rw [e1]; exact q2) 180 (by omega), e1]
      · have bit : x.testBit n = true := ((lw.2 n (by omega)).2 (by have := q.2; omega) q.1).mpr (Or.inr ⟨q.2, Nat.le_refl _⟩)
        have e7 : c 7 (n : Int) ≠ -1 := by have := q.1; omega
        have en : wmO c n = 180 - (t : Int) := by
          rw [show wmO c n = warmI c n from if_neg e7]
          exact q.2
        have dp := drop_bit n (by omega) x lw.1 bit
        obtain ⟨b, v, r1, r2⟩ := t_warmestOf (xs := xs) (d := d) k w lw.1
        have hb : b = (n : Int) := by
          rcases r2.2 with ⟨a1, a2, a3⟩ | ⟨B, a1, a2, a3, a4, a5, a6⟩
          · have := a3 n (by omega) bit
            omega
          · have hq := (lw.2 B (by omega)).1 a3
            have e2 : wmO c B = warmI c B := if_neg (by omega)
            have m1 := ((lw.2 B (by omega)).2 (by omega) hq).mp a3
            have m2 := (a6 n (by omega) bit).1
            have m3 := (a6 n (by omega) bit).2
            by_cases z : n < B
            · have := m3 z
              omega
            · omega
        subst hb
        have i7 : (i : Int) < 7 := by omega
        have wo := t_warmOf (xs := xs) (d := d) (b := 12) (by omega) k w (p := (n : Int)) (by omega)
        have e3 : (if c 7 (n : Int) = -1 then 0 else warmI c (n : Int)) = 180 - (t : Int) := en
        rw [e3] at wo
        have u := ihr (n + 1) (by omega) (x &&& (127 - 2 ^ n)) (i + 1) (mI (n : Int)) (mI (180 - (t : Int))) (mI (min (c 6 (n : Int)) ((c 2 3 - s.1 + (180 - (t : Int)) - 1) / (180 - (t : Int))))) (by
          refine ⟨and_lt128 lw.1, fun q' hq' => ⟨fun z => (lw.2 q' hq').1 ?_, fun h1 h2 => ?_⟩⟩
          · rw [Nat.testBit_and, Bool.and_eq_true] at z
            exact z.1
          · rw [Nat.testBit_and, Bool.and_eq_true, not_bit n (by omega) q' (by omega), (lw.2 q' hq').2 h1 h2, decide_eq_true_iff]
            have q22 := q.2
            constructor
            · rintro ⟨z1, z2⟩
              omega
            · intro z
              refine ⟨by omega, fun e => ?_⟩
              subst e
              omega) (by omega)
        rw [inn, if_pos q, hs] at u
        have bd := useW_bd (gl := c 2 3) (much := 180 - (t : Int)) (g := c 6 (n : Int)) (s := s) hl.1 (by omega) hgl gs
        unfold useW at u bd
        rw [if_pos (by omega)] at u bd
        simp only at u bd
        unfold goodS at gs
        obtain ⟨c1, c2, c3⟩ := ceil_bd (a := c 2 3 - s.1) (m := 180 - (t : Int)) (by omega) (by omega)
        rw [e_Co_drinksTo_18]
        refine if_y (by omega) ?_
        rw [if_pos (by omega)]
        refine cI_of (r1) ?_
        refine if_n (by omega) ?_
        refine cI_of (wo) ?_
        rw [show max 1 (180 - (t : Int)) = 180 - (t : Int) by omega, show h 17 (n : Int) = c 6 n from k.l _ (by omega) (by omega)]
        generalize hu : min (c 6 (n : Int)) ((c 2 3 - s.1 + (180 - (t : Int)) - 1) / (180 - (t : Int))) = U at u bd ⊢
        have b0 : 0 ≤ U := by omega
        have b1 : U * 1 ≤ U * (180 - (t : Int)) := Int.mul_le_mul_of_nonneg_left (by omega) b0
        refine if_y (by omega) ?_
        refine if_y (by omega) ?_
        refine if_y (by omega) ?_
        refine if_y (by omega) ?_
        refine if_y (by omega) ?_
        refine if_y (by omega) ?_
        refine if_y (by omega) ?_
        refine if_y (by omega) ?_
        rw [not_small n (by omega) x lw.1]
        rw [show c 2 3 - (s.1 + U * (180 - (t : Int))) = c 2 3 - s.1 - U * (180 - (t : Int)) by omega] at u
        exact u
    · have u := ihr (n + 1) (by omega) x i x6 x7 x8 (by
        refine ⟨lw.1, fun q' hq' => ⟨(lw.2 q' hq').1, fun h1 h2 => ?_⟩⟩
        rw [(lw.2 q' hq').2 h1 h2]
        by_cases e : q' = n
        · subst e
          have : ¬ warmI c (q' : Int) = 180 - (t : Int) := fun z => q ⟨h2, z⟩
          omega
        · omega) hi
      rw [inn, if_neg q] at u
      exact u
theorem t_drinksTo (k : CoT 12 c h) (w : WfC c) (hp : 0 ≤ p ∧ p < c 0 0) : C xs d 252 0 [mR 12, mI p] h = some ([mI (needT c p)], h) := by
  have hn := w.1
  have all : ∀ m t, t + m = 180 → EndK xs d c h p t := by
    intro m
    induction m with
    | zero =>
      intro t ht
      exact t_drinksEnd k w (by omega)
    | succ m ih =>
      intro t ht x i x6 x7 x8 lw hi
      exact t_drinksRow k w hp (by omega) (ih (t + 1) (by omega)) (c 0 0).toNat 0 (by omega) x i x6 x7 x8 lw hi
  have hw := (w.2.2.2.2.2.2.2.2 p hp.1 hp.2).2.2.1
  have hgl := w.2.2.2.2.1
  have x128 := sq_small (P := warB c p) (n := (c 0 0).toNat) (by omega)
  have u := all 180 0 (by omega) (sq (warB c p) (c 0 0).toNat) 0 (mC 0) (mC 0) (mC 0) (by
    refine ⟨x128, fun q hq => ?_⟩
    rw [sq_bit, decide_eq_true (show q < (c 0 0).toNat by omega), Bool.true_and]
    unfold warB
    rw [decide_eq_true_iff]
    refine ⟨fun z => z, fun h1 h2 => ⟨fun _ => ?_, fun _ => h2⟩⟩
    have := warmI_bd w (p := (q : Int)) (by omega) (by omega)
    omega) (by have := bc_7 _ x128; omega)
  rw [c_Co_drinksTo]
  refine if_y (by omega) ?_
  rw [show h 13 3 = c 2 3 from k.r 3 (by omega) (by omega), show h 16 p = c 5 p from k.w _ hp.1 hp.2]
  refine if_y (by omega) ?_
  refine cI_of (t_warmersOf k w p) ?_
  exact u
end
section
variable {xs : List Int} {d : Nat} {c : Kc} {h : mM}
theorem need_rng (w : WfC c) {p : Int} (hp : 0 ≤ p ∧ p < c 0 0) : (needT c p = -1 ∧ needV c p = 1000000) ∨ (needT c p = needV c p ∧ 0 ≤ needV c p ∧ needV c p ≤ 279) := by
  have g := outW_good w hp 180 (by omega)
  generalize hF : outW c p 180 = F at g
  unfold goodS at g
  rw [needT_of hF, needV_of hF]
  by_cases q : F.1 < c 2 3
  · rw [if_pos q, if_pos q]
    exact Or.inl ⟨rfl, rfl⟩
  · rw [if_neg q, if_neg q]
    exact Or.inr ⟨rfl, by omega, by omega⟩
def nsF (c : Kc) (x : Nat) : Nat → Int := fun q => if x.testBit q = true then needV c (q : Int) else 0
theorem nsF_bd (w : WfC c) {x i : Nat} (hi : i ≤ (c 0 0).toNat) : 0 ≤ sumN (nsF c x) i ∧ sumN (nsF c x) i ≤ 1000000 * i := by
  refine sumN_bd (fun q hq => ?_)
  unfold nsF
  split
  · rcases need_rng w (p := (q : Int)) (by omega) with z | z <;> omega
  · omega
theorem nsF_mono (w : WfC c) {x i j : Nat} (hij : i ≤ j) (hj : j ≤ (c 0 0).toNat) : sumN (nsF c x) i ≤ sumN (nsF c x) j := by
  obtain ⟨r, rfl⟩ := Nat.exists_eq_add_of_le hij
  induction r with
  | zero => exact Int.le_refl _
  | succ r ih =>
    have := ih (by omega) (by omega)
    rw [← Nat.add_assoc, sumN_s]
    have : 0 ≤ nsF c x (i + r) := by
      unfold nsF
      split
      · rcases need_rng w (p := ((i + r : Nat) : Int)) (by omega) with z | z <;> omega
      · omega
    omega
/-- the best of the sets up to one -/
def bst (c : Kc) (dr : Int) : Nat → Nat
  | 0 => 0
  | s + 1 => if bc (bst c dr s) < bc (s + 1) ∧ sumN (nsF c (s + 1)) (c 0 0).toNat ≤ dr then s + 1 else bst c dr s
theorem bst_le {dr : Int} : ∀ s, bst c dr s ≤ s
  | 0 => Nat.le_refl _
  | s + 1 => by
    rw [bst]
    split
    · exact Nat.le_refl _
    · exact Nat.le_succ_of_le (bst_le s)
theorem t_canAll (k : CoT 12 c h) (w : WfC c) {dr : Int} (hd : 0 ≤ dr ∧ dr ≤ 20) (f : ∀ q, 0 ≤ q → q < c 0 0 → h 20 q = needT c q) {x : Nat} (hx : x < 128) : C xs d 255 0 [mR 12, mI (x : Int), mI dr] h = some ([mI (b2i (sumN (nsF c x) (c 0 0).toNat ≤ dr))], h) := by
  have hn := w.1
  rw [c_Co_canAllBeLit]
  have key : ∀ (r i : Nat), i + r = (c 0 0).toNat → X xs d k_Co_canAllBeLit 4 [mR 12, mI (x : Int), mI dr, mI (sumN (nsF c x) i), mI (i : Int)] [] h = some ([mI (b2i (sumN (nsF c x) (c 0 0).toNat ≤ dr))], h) := by
    intro r
    induction r with
    | zero =>
      intro i hi
      rw [e_Co_canAllBeLit_4, k.n, if_neg (by omega), show i = (c 0 0).toNat by omega]
      by_cases q : sumN (nsF c x) (c 0 0).toNat ≤ dr
      · rw [if_neg (by omega), b2i_y q]
      · rw [if_pos (by omega), b2i_n q]
    | succ r ih =>
      intro i hi
      have nx := ih (i + 1) (by omega)
      have bd := nsF_bd w (x := x) (i := i) (by omega)
      have mono := nsF_mono w (x := x) (i := i + 1) (j := (c 0 0).toNat) (by omega) (by omega)
      rw [sumN_s] at nx mono
      rw [e_Co_canAllBeLit_4, k.n]
      refine if_y (by omega) ?_
      by_cases q : x.testBit i = true
      · rw [if_neg (by rw [and_b hx (by omega), q]; decide)]
        have e : nsF c x i = needV c i := if_pos q
        rw [f _ (by omega) (by omega)]
        refine if_y (by omega) ?_
        rcases need_rng w (p := (i : Int)) (by omega) with z | z
        · rw [if_pos z.1, b2i_n (by omega)]
        · refine if_n (by omega) ?_
          refine if_y (by omega) ?_
          refine if_y (by omega) ?_
          rw [e_Co_canAllBeLit_29]
          refine if_y (by omega) ?_
          rw [z.1, ← e]
          exact nx
      · have e : nsF c x i = 0 := if_neg q
        rw [Bool.not_eq_true] at q
        rw [if_pos ((and_b hx (by omega)).mpr q), e_Co_canAllBeLit_29]
        refine if_y (by omega) ?_
        rw [e, Int.add_zero] at nx
        exact nx
  exact key (c 0 0).toNat 0 (by omega)
theorem t_mostLit (k : CoT 12 c h) (w : WfC c) {dr : Int} (hd : 0 ≤ dr ∧ dr ≤ 20) : ∃ h', C xs d 254 0 [mR 12, mI dr] h = some ([mI ((bst c dr (2 ^ (c 0 0).toNat - 1) : Nat) : Int)], h') ∧ Ow [20] h h' := by
  have hn := w.1
  rw [c_Co_mostLit]
  have kk : ∀ i, CoT 12 c (rowU h 20 i (fun q => needT c q)) := fun i => k.mv (fun a h1 h2 => rowU_ne (by omega))
  have st : ∀ i : Nat, i < (c 0 0).toNat → X xs d k_Co_mostLit 2 [mR 12, mI dr, mI (i : Int), mC 0] [] (rowU h 20 i (fun q => needT c q)) = X xs d k_Co_mostLit 2 [mR 12, mI dr, mI ((i + 1 : Nat) : Int), mC 0] [] (rowU h 20 ((i + 1 : Nat) : Int) (fun q => needT c q)) := by
    intro i hi
    rw [e_Co_mostLit_2, (kk _).n]
    refine if_y (by omega) ?_
    refine cI_of (t_drinksTo (kk _) w (by omega)) ?_
    refine if_y (by omega) ?_
    refine if_y (by omega) ?_
    rw [rowU_up (by omega) rfl]
    rfl
  have r := run_to (fun i : Nat => X xs d k_Co_mostLit 2 [mR 12, mI dr, mI (i : Int), mC 0] [] (rowU h 20 i (fun q => needT c q))) st
  generalize hg : rowU h 20 (((c 0 0).toNat : Nat) : Int) (fun q => needT c q) = g at r
  have kg : CoT 12 c g := by rw [← hg]; exact kk _
  have fg : ∀ q, 0 ≤ q → q < c 0 0 → g 20 q = needT c q := fun q h1 h2 => by rw [← hg, rowU_in (by omega)]
  have og : Ow [20] h g := by rw [← hg]; exact Ow.rf.row (by simp)
  refine ⟨g, ?_, og⟩
  refine (congrArg (fun g => X xs d k_Co_mostLit 2 [mR 12, mI dr, mI 0, mC 0] [] g) (rowU_0 (h := h) (a := 20) (f := fun q => needT c q)).symm).trans ?_
  refine r.trans ?_
  rw [e_Co_mostLit_2, kg.n, if_neg (by omega)]
  have p7 := pow_le7 (n := (c 0 0).toNat) (by omega)
  have p1 := Nat.two_pow_pos (c 0 0).toNat
  have sh : fShl 1 (c 0 0) = ((2 ^ (c 0 0).toNat : Nat) : Int) := by
    have := shl_small (c 0 0).toNat (by omega)
    rw [show (((c 0 0).toNat : Nat) : Int) = c 0 0 by omega] at this
    exact this
  generalize hN : 2 ^ (c 0 0).toNat = N at p7 p1 sh ⊢
  have st2 : ∀ i : Nat, i < N - 1 → X xs d k_Co_mostLit 19 [mR 12, mI dr, mI ((bst c dr i : Nat) : Int), mI ((i + 1 : Nat) : Int)] [] g = X xs d k_Co_mostLit 19 [mR 12, mI dr, mI ((bst c dr (i + 1) : Nat) : Int), mI ((i + 1 + 1 : Nat) : Int)] [] g := by
    intro i hi
    have bl := bst_le (c := c) (dr := dr) i
    rw [e_Co_mostLit_19, kg.n, sh]
    refine if_y (by omega) ?_
    refine cI_of (t_bitCount (by omega)) ?_
    refine cI_of (t_bitCount (by omega)) ?_
    have e37 : ∀ b : Int, X xs d k_Co_mostLit 37 [mR 12, mI dr, mI b, mI ((i + 1 : Nat) : Int)] [] g = X xs d k_Co_mostLit 19 [mR 12, mI dr, mI b, mI ((i + 1 + 1 : Nat) : Int)] [] g := fun b => by
      rw [e_Co_mostLit_37]
      refine if_y (by omega) ?_
      rfl
    by_cases q : bc (bst c dr i) < bc (i + 1)
    · refine if_y ((by omega)) ?_
      refine cI_of (t_canAll kg w hd fg (x := i + 1) (by omega)) ?_
      by_cases q2 : sumN (nsF c (i + 1)) (c 0 0).toNat ≤ dr
      · refine if_n ((fun z => b2i_0.mp z q2)) ?_
        rw [e37, bst, if_pos ⟨q, q2⟩]
      · refine if_y (b2i_0.mpr q2) ?_
        rw [e37, bst, if_neg (fun z => q2 z.2)]
    · refine if_n ((by omega)) ?_
      rw [e37, bst, if_neg (fun z => q z.1)]
  refine (run_to (fun i : Nat => X xs d k_Co_mostLit 19 [mR 12, mI dr, mI ((bst c dr i : Nat) : Int), mI ((i + 1 : Nat) : Int)] [] g) st2).trans ?_
  rw [e_Co_mostLit_19, kg.n, sh, if_neg (by omega)]
theorem m_mostOfAll (k : CoM c h) (w : WfC c) {dr : Int} (hd : 0 ≤ dr ∧ dr ≤ 20) : ∃ h', C xs d 179 0 [mR 130, mI dr] h = some ([mI ((bst c dr (2 ^ (c 0 0).toNat - 1) : Nat) : Int)], h') ∧ Ow [142] h h' := by
  have hn := w.1
  rw [c_M_mostOfAll]
  have kk : ∀ i, CoM c (rowU h 142 i (fun q => needV c q)) := fun i => k.mv (rowU_ne (by omega))
  have st : ∀ i : Nat, i < (c 0 0).toNat → X xs d k_M_mostOfAll 2 [mR 130, mI dr, mI (i : Int), mC 0, mC 0, mC 0] [] (rowU h 142 i (fun q => needV c q)) = X xs d k_M_mostOfAll 2 [mR 130, mI dr, mI ((i + 1 : Nat) : Int), mC 0, mC 0, mC 0] [] (rowU h 142 ((i + 1 : Nat) : Int) (fun q => needV c q)) := by
    intro i hi
    rw [e_M_mostOfAll_2, (kk _).n]
    refine if_y (by omega) ?_
    refine cI_of (m_needsOf (kk _) w (by omega)) ?_
    refine if_y (by omega) ?_
    refine if_y (by omega) ?_
    rw [rowU_up (by omega) rfl]
    rfl
  have r := run_to (fun i : Nat => X xs d k_M_mostOfAll 2 [mR 130, mI dr, mI (i : Int), mC 0, mC 0, mC 0] [] (rowU h 142 i (fun q => needV c q))) st
  generalize hg : rowU h 142 (((c 0 0).toNat : Nat) : Int) (fun q => needV c q) = g at r
  have kg : CoM c g := by rw [← hg]; exact kk _
  have fg : ∀ q, 0 ≤ q → q < c 0 0 → g 142 q = needV c q := fun q h1 h2 => by rw [← hg, rowU_in (by omega)]
  have og : Ow [142] h g := by rw [← hg]; exact Ow.rf.row (by simp)
  refine ⟨g, ?_, og⟩
  refine (congrArg (fun g => X xs d k_M_mostOfAll 2 [mR 130, mI dr, mI 0, mC 0, mC 0, mC 0] [] g) (rowU_0 (h := h) (a := 142) (f := fun q => needV c q)).symm).trans ?_
  refine r.trans ?_
  rw [e_M_mostOfAll_2, kg.n, if_neg (by omega)]
  have p7 := pow_le7 (n := (c 0 0).toNat) (by omega)
  have p1 := Nat.two_pow_pos (c 0 0).toNat
  have sh : fShl 1 (c 0 0) = ((2 ^ (c 0 0).toNat : Nat) : Int) := by
    have := shl_small (c 0 0).toNat (by omega)
    rw [show (((c 0 0).toNat : Nat) : Int) = c 0 0 by omega] at this
    exact this
  generalize hN : 2 ^ (c 0 0).toNat = N at p7 p1 sh ⊢
  have sums : ∀ (x b : Nat), x < 128 → X xs d k_M_mostOfAll 33 [mR 130, mI dr, mI (b : Int), mI (x : Int), mI 0, mI 0] [] g = X xs d k_M_mostOfAll 33 [mR 130, mI dr, mI (b : Int), mI (x : Int), mI (sumN (nsF c x) (c 0 0).toNat), mI (((c 0 0).toNat : Nat) : Int)] [] g := by
    intro x b hx
    have s3 : ∀ i : Nat, i < (c 0 0).toNat → X xs d k_M_mostOfAll 33 [mR 130, mI dr, mI (b : Int), mI (x : Int), mI (sumN (nsF c x) i), mI (i : Int)] [] g = X xs d k_M_mostOfAll 33 [mR 130, mI dr, mI (b : Int), mI (x : Int), mI (sumN (nsF c x) (i + 1)), mI ((i + 1 : Nat) : Int)] [] g := by
      intro i hi
      have bd := nsF_bd w (x := x) (i := i) (by omega)
      have bd2 := nsF_bd w (x := x) (i := i + 1) (by omega)
      rw [sumN_s] at bd2 ⊢
      rw [e_M_mostOfAll_33, kg.n]
      refine if_y (by omega) ?_
      refine cI_of (m_isInN hx (by omega)) ?_
      by_cases q : x.testBit i = true
      · refine if_n ((fun z => b2i_0.mp z q)) ?_
        refine if_y (by omega) ?_
        have e : nsF c x i = needV c i := if_pos q
        rw [fg _ (by omega) (by omega), ← e, e_M_mostOfAll_51]
        refine if_y (by omega) ?_
        refine if_y (by omega) ?_
        rfl
      · refine if_y (b2i_0.mpr q) ?_
        have e : nsF c x i = 0 := if_neg q
        rw [e, e_M_mostOfAll_51]
        refine if_y (by omega) ?_
        refine if_y (by omega) ?_
        rfl
    exact run_to (fun i : Nat => X xs d k_M_mostOfAll 33 [mR 130, mI dr, mI (b : Int), mI (x : Int), mI (sumN (nsF c x) i), mI (i : Int)] [] g) s3
  have key : ∀ (m i : Nat) (x4 x5 : mv), i + m = N - 1 → X xs d k_M_mostOfAll 21 [mR 130, mI dr, mI ((bst c dr i : Nat) : Int), mI ((i + 1 : Nat) : Int), x4, x5] [] g = some ([mI ((bst c dr (N - 1) : Nat) : Int)], g) := by
    intro m
    induction m with
    | zero =>
      intro i x4 x5 hi
      rw [e_M_mostOfAll_21, kg.n, sh, if_neg (by omega), show i = N - 1 by omega]
    | succ m ih =>
      intro i x4 x5 hi
      have bl := bst_le (c := c) (dr := dr) i
      have nx := ih (i + 1) (mI (sumN (nsF c (i + 1)) (c 0 0).toNat)) (mI (((c 0 0).toNat : Nat) : Int)) (by omega)
      rw [e_M_mostOfAll_21, kg.n, sh]
      refine if_y (by omega) ?_
      refine (sums (i + 1) (bst c dr i) (by omega)).trans ?_
      have e65 : ∀ b : Int, X xs d k_M_mostOfAll 65 [mR 130, mI dr, mI b, mI ((i + 1 : Nat) : Int), mI (sumN (nsF c (i + 1)) (c 0 0).toNat), mI (((c 0 0).toNat : Nat) : Int)] [] g = X xs d k_M_mostOfAll 21 [mR 130, mI dr, mI b, mI ((i + 1 + 1 : Nat) : Int), mI (sumN (nsF c (i + 1)) (c 0 0).toNat), mI (((c 0 0).toNat : Nat) : Int)] [] g := fun b => by
        rw [e_M_mostOfAll_65]
        refine if_y (by omega) ?_
        rfl
      rw [e_M_mostOfAll_33, kg.n]
      refine if_n ((by omega)) ?_
      by_cases q2 : sumN (nsF c (i + 1)) (c 0 0).toNat ≤ dr
      · refine if_n ((by omega)) ?_
        refine cI_of (m_bits (by omega)) ?_
        refine cI_of (m_bits (by omega)) ?_
        by_cases q : bc (bst c dr i) < bc (i + 1)
        · refine if_y ((by omega)) ?_
          rw [bst, if_pos ⟨q, q2⟩] at nx
          exact (e65 _).trans nx
        · refine if_n ((by omega)) ?_
          rw [bst, if_neg (fun z => q z.1)] at nx
          exact (e65 _).trans nx
      · refine if_y ((by omega)) ?_
        rw [bst, if_neg (fun z => q2 z.2)] at nx
        exact (e65 _).trans nx
  exact key (N - 1) 0 (mC 0) (mC 0) (by omega)
theorem q_needs (R : Rel h) (x : Int) : QI xs d h 40 178 [mI x] := by
  obtain ⟨c, k⟩ := R.co
  have kT := k.1
  have kM := CoM.z.mp k.2.1
  have w := k.2.2.1
  by_cases q : 0 ≤ x ∧ x < c 0 0
  rotate_left
  · refine QI.ans R 1 (-1) ?_ ?_
    · rw [c_T_needs]
      refine cI_of (t_has12 kT x) ?_
      rw [if_pos (b2i_0.mpr q)]
      refine cI_of (c_T_refuse xs d _ h) ?_
      rfl
    · rw [c_M_needs]
      refine cI_of (m_isPerson (kM.z0 1) x) ?_
      rw [if_pos (b2i_0.mpr q)]
      refine cI_of (c_M_refuse xs d _ _) ?_
      rfl
  rcases need_rng w q with z | z
  · refine QI.ans R 6 (-1) ?_ ?_
    · rw [c_T_needs]
      refine cI_of (t_has12 kT x) ?_
      rw [if_neg (fun z => b2i_0.mp z q)]
      refine cI_of (t_drinksTo kT w q) ?_
      refine if_y (z.1) ?_
      refine cI_of (c_T_refuse xs d _ h) ?_
      rfl
    · rw [c_M_needs]
      refine cI_of (m_isPerson (kM.z0 6) x) ?_
      rw [if_neg (fun z => b2i_0.mp z q)]
      refine cI_of (m_needsOf (kM.z0 6) w q) ?_
      refine if_n (by omega) ?_
      refine cI_of (c_M_refuse xs d _ _) ?_
      rfl
  · refine QI.ans R 0 (needV c x) ?_ ?_
    · rw [c_T_needs]
      refine cI_of (t_has12 kT x) ?_
      rw [if_neg (fun z => b2i_0.mp z q)]
      refine cI_of (t_drinksTo kT w q) ?_
      refine if_n (by omega) ?_
      rw [z.1]
      refine cI_of (c_T_answer xs d _ h) ?_
      rfl
    · rw [c_M_needs]
      refine cI_of (m_isPerson (kM.z0 0) x) ?_
      rw [if_neg (fun z => b2i_0.mp z q)]
      refine cI_of (m_needsOf (kM.z0 0) w q) ?_
      refine if_y (by omega) ?_
      refine cI_of (c_M_gives xs d _ _) ?_
      rfl
theorem Keep.ow1 {a : Nat} {g : mM} (o : Ow [a] h g) (ha : keptL.elem a = false ∧ a ≠ 0 ∧ a ≠ 130 ∧ a ≠ 131) : Keep h g := Keep.ow o (fun b hb => by rw [List.mem_singleton] at hb; subst hb; exact ha)
theorem q_most (R : Rel h) (x : Int) : QI xs d h 41 180 [mI x] := by
  obtain ⟨c, k⟩ := R.co
  have kT := k.1
  have kM := CoM.z.mp k.2.1
  have w := k.2.2.1
  have hn := w.1
  by_cases q : 0 ≤ x ∧ x ≤ 20
  rotate_left
  · refine QI.ans R 1 (-1) ?_ ?_
    · rw [c_T_most]
      refine cI_of (t_within) ?_
      rw [if_pos (b2i_0.mpr q)]
      refine cI_of (c_T_refuse xs d _ h) ?_
      rfl
    · rw [c_M_most]
      refine cI_of (m_isFrom) ?_
      rw [if_pos (b2i_0.mpr q)]
      refine cI_of (c_M_refuse xs d _ _) ?_
      rfl
  have p7 := pow_le7 (n := (c 0 0).toNat) (by omega)
  have p1 := Nat.two_pow_pos (c 0 0).toNat
  have bl := bst_le (c := c) (dr := x) (2 ^ (c 0 0).toNat - 1)
  obtain ⟨g1, r1, o1⟩ := t_mostLit (xs := xs) (d := d) kT w q
  have kM1 : CoM c (upM g1 0 0 0) := kM.mv (by rw [up_row (by omega), o1 131 (by decide)])
  obtain ⟨g2, r2, o2⟩ := m_mostOfAll (xs := xs) (d := d) kM1 w q
  refine QI.mkU R k ((bc (bst c x (2 ^ (c 0 0).toNat - 1)) : Nat) : Int) 0 (g1 := g1) (g2 := g2) ?_ (kT.mv (fun a h1 h2 => o1.at a (by simp; omega))) (Keep.ow1 o1 (by decide)) ?_ (kM1.mv (o2 131 (by decide))) (Keep.ow1 o2 (by decide)) (fun a h1 h2 => by rw [o2.at a (by simp; omega), up_row (by omega)]) (o2.at 0 (by decide)) w k.2.2.2.1 rfl
  · rw [c_T_most]
    refine cI_of (t_within) ?_
    rw [if_neg (fun z => b2i_0.mp z q)]
    refine cI_of (r1) ?_
    refine cI_of (t_bitCount (by omega)) ?_
    refine cI_of (c_T_answer xs d _ _) ?_
    rfl
  · rw [c_M_most]
    refine cI_of (m_isFrom) ?_
    rw [if_neg (fun z => b2i_0.mp z q)]
    refine cI_of (r2) ?_
    refine cI_of (m_bits (by omega)) ?_
    refine cI_of (c_M_gives xs d _ _) ?_
    rfl
theorem q_mostSet (R : Rel h) (x : Int) : QI xs d h 42 181 [mI x] := by
  obtain ⟨c, k⟩ := R.co
  have kT := k.1
  have kM := CoM.z.mp k.2.1
  have w := k.2.2.1
  have hn := w.1
  by_cases q : 0 ≤ x ∧ x ≤ 20
  rotate_left
  · refine QI.ans R 1 (-1) ?_ ?_
    · rw [c_T_mostSet]
      refine cI_of (t_within) ?_
      rw [if_pos (b2i_0.mpr q)]
      refine cI_of (c_T_refuse xs d _ h) ?_
      rfl
    · rw [c_M_mostSet]
      refine cI_of (m_isFrom) ?_
      rw [if_pos (b2i_0.mpr q)]
      refine cI_of (c_M_refuse xs d _ _) ?_
      rfl
  obtain ⟨g1, r1, o1⟩ := t_mostLit (xs := xs) (d := d) kT w q
  have kM1 : CoM c (upM g1 0 0 0) := kM.mv (by rw [up_row (by omega), o1 131 (by decide)])
  obtain ⟨g2, r2, o2⟩ := m_mostOfAll (xs := xs) (d := d) kM1 w q
  refine QI.mkU R k ((bst c x (2 ^ (c 0 0).toNat - 1) : Nat) : Int) 0 (g1 := g1) (g2 := g2) ?_ (kT.mv (fun a h1 h2 => o1.at a (by simp; omega))) (Keep.ow1 o1 (by decide)) ?_ (kM1.mv (o2 131 (by decide))) (Keep.ow1 o2 (by decide)) (fun a h1 h2 => by rw [o2.at a (by simp; omega), up_row (by omega)]) (o2.at 0 (by decide)) w k.2.2.2.1 rfl
  · rw [c_T_mostSet]
    refine cI_of (t_within) ?_
    rw [if_neg (fun z => b2i_0.mp z q)]
    refine cI_of (r1) ?_
    refine cI_of (c_T_answer xs d _ _) ?_
    rfl
  · rw [c_M_mostSet]
    refine cI_of (m_isFrom) ?_
    rw [if_neg (fun z => b2i_0.mp z q)]
    refine cI_of (r2) ?_
    refine cI_of (c_M_gives xs d _ _) ?_
    rfl
end
