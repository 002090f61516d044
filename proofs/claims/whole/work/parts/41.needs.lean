/-! EQUIV 11: who can be lit -/
def useW (gl much g : Int) (s : Int × Int) : Int × Int := if s.1 < gl then (s.1 + min g ((gl - s.1 + much - 1) / much) * much, s.2 + min g ((gl - s.1 + much - 1) / much)) else s
theorem ceil_bd {a m : Int} (ha : 1 ≤ a) (hm : 1 ≤ m) : 1 ≤ (a + m - 1) / m ∧ ((a + m - 1) / m - 1) * m < a ∧ a ≤ (a + m - 1) / m * m := by
  have e := Int.mul_ediv_add_emod (a + m - 1) m
  have r1 := Int.emod_nonneg (a + m - 1) (show m ≠ 0 by omega)
  have r2 := Int.emod_lt_of_pos (a + m - 1) (show 0 < m by omega)
  have e2 : ((a + m - 1) / m - 1) * m = m * ((a + m - 1) / m) - m := by rw [Int.sub_mul, Int.one_mul, Int.mul_comm]
  have e3 : (a + m - 1) / m * m = m * ((a + m - 1) / m) := Int.mul_comm _ _
  refine ⟨?_, by omega, by omega⟩
  rw [Int.le_ediv_iff_mul_le (by omega)]
  omega
theorem mul_le_r {a b m : Int} (h : a ≤ b) (hm : 0 ≤ m) : a * m ≤ b * m := Int.mul_le_mul_of_nonneg_right h hm
theorem useW_bd {gl much g : Int} {s : Int × Int} (hg : 0 ≤ g) (h1 : 1 ≤ much ∧ much ≤ 180) (h2 : 1 ≤ gl ∧ gl ≤ 99) (h3 : 0 ≤ s.2 ∧ s.2 ≤ s.1 ∧ s.1 ≤ 279) : 0 ≤ (useW gl much g s).2 ∧ (useW gl much g s).2 ≤ (useW gl much g s).1 ∧ (useW gl much g s).1 ≤ 279 := by
  unfold useW
  split
  · next q =>
    obtain ⟨c1, c2, c3⟩ := ceil_bd (a := gl - s.1) (m := much) (by omega) h1.1
    have c0 : 0 ≤ min g ((gl - s.1 + much - 1) / much) := by omega
    have c4 : (min g ((gl - s.1 + much - 1) / much) - 1) * much ≤ ((gl - s.1 + much - 1) / much - 1) * much := mul_le_r (by omega) (by omega)
    have c5 : (min g ((gl - s.1 + much - 1) / much) - 1) * much = min g ((gl - s.1 + much - 1) / much) * much - much := by rw [Int.sub_mul, Int.one_mul]
    have c6 : min g ((gl - s.1 + much - 1) / much) * 1 ≤ min g ((gl - s.1 + much - 1) / much) * much := Int.mul_le_mul_of_nonneg_left h1.1 c0
    show 0 ≤ s.2 + _ ∧ s.2 + _ ≤ s.1 + _ ∧ s.1 + _ ≤ 279
    omega
  · exact h3
/-- whether one of the people warms him so much -/
abbrev isW (c : Kc) (p much : Int) (o : Nat) : Prop := c 7 (o : Int) = p ∧ warmI c (o : Int) = much
def inn (c : Kc) (p much : Int) : Nat → Int × Int → Int × Int
  | 0, s => s
  | k + 1, s => if isW c p much k then useW (c 2 3) much (c 6 (k : Int)) (inn c p much k s) else inn c p much k s
def outW (c : Kc) (p : Int) : Nat → Int × Int
  | 0 => (c 5 p, 0)
  | t + 1 => inn c p (180 - (t : Int)) (c 0 0).toNat (outW c p t)
def goodS (s : Int × Int) : Prop := 0 ≤ s.2 ∧ s.2 ≤ s.1 ∧ s.1 ≤ 279
section
variable {c : Kc} {p : Int}
theorem inn_good (w : WfC c) {much : Int} (hm : 1 ≤ much ∧ much ≤ 180) {s : Int × Int} (hs : goodS s) : ∀ k, k ≤ (c 0 0).toNat → goodS (inn c p much k s)
  | 0, _ => hs
  | k + 1, h => by
    rw [inn]
    split
    · exact useW_bd (w.2.2.2.2.2.2.2.2 k (by omega) (by omega)).2.2.2.1.1 hm w.2.2.2.2.1 (inn_good w hm hs k (by omega))
    · exact inn_good w hm hs k (by omega)
theorem outW_good (w : WfC c) (hp : 0 ≤ p ∧ p < c 0 0) : ∀ t, t ≤ 180 → goodS (outW c p t)
  | 0, _ => by
    have := (w.2.2.2.2.2.2.2.2 p hp.1 hp.2).2.2.1
    unfold goodS outW
    omega
  | t + 1, h => inn_good w (by omega) (outW_good w hp t (by omega)) _ (by omega)
theorem useW_done {gl much g : Int} {s : Int × Int} (h : gl ≤ s.1) : useW gl much g s = s := if_neg (by omega)
theorem inn_done {much : Int} {s : Int × Int} (h : c 2 3 ≤ s.1) : ∀ k, inn c p much k s = s
  | 0 => rfl
  | k + 1 => by
    rw [inn, inn_done h k, useW_done h]
    split <;> rfl
theorem inn_split {much : Int} {s : Int × Int} {k n : Nat} (hk : k ≤ n) (h : c 2 3 ≤ (inn c p much k s).1) : inn c p much n s = inn c p much k s := by
  obtain ⟨r, rfl⟩ := Nat.exists_eq_add_of_le hk
  induction r with
  | zero => rfl
  | succ r ih =>
    rw [← Nat.add_assoc, inn, ih (by omega), useW_done h]
    split <;> rfl
theorem outW_done {t : Nat} (h : c 2 3 ≤ (outW c p t).1) : ∀ m, t ≤ m → outW c p m = outW c p t := fun m hm => by
  obtain ⟨r, rfl⟩ := Nat.exists_eq_add_of_le hm
  induction r with
  | zero => rfl
  | succ r ih => rw [← Nat.add_assoc, outW, ih (by omega), inn_done h]
end
section
variable {xs : List Int} {d : Nat} {c : Kc} {h : mM} {p : Int}
theorem m_glasses (k : CoM c h) (w : WfC c) {o : Nat} (ho : (o : Int) < c 0 0) {much : Int} (hm : 1 ≤ much ∧ much ≤ 180) {s : Int × Int} (hs : goodS s) : ∃ x6, X xs d k_M_needsOf 32 [mR 130, mI p, mI s.1, mI s.2, mI much, mI (o : Int), mI 0] [] h = X xs d k_M_needsOf 51 [mR 130, mI p, mI (useW (c 2 3) much (c 6 (o : Int)) s).1, mI (useW (c 2 3) much (c 6 (o : Int)) s).2, mI much, mI (o : Int), x6] [] h := by
  have hn := w.1
  have hl := (w.2.2.2.2.2.2.2.2 o (by omega) (by omega)).2.2.2.1
  have hgl := w.2.2.2.2.1
  obtain ⟨s1, s2⟩ := s
  unfold goodS at hs
  simp only at hs ⊢
  unfold useW
  simp only
  have pOf : ∀ {g : mM}, CoM c g → C xs d 129 0 [mR 130, mI (o : Int), mI 3] g = some ([mI (c 6 (o : Int))], g) := fun kg => by
    rw [m_personOf (by omega) (by omega), kg.l _ (by omega) ho]
  by_cases q : s1 < c 2 3
  · rw [if_pos q]
    obtain ⟨c1, c2, c3⟩ := ceil_bd (a := c 2 3 - s1) (m := much) (by omega) hm.1
    generalize hu : min (c 6 (o : Int)) ((c 2 3 - s1 + much - 1) / much) = u
    obtain ⟨U, rfl⟩ : ∃ U : Nat, u = (U : Int) := ⟨u.toNat, by omega⟩
    have bd : ∀ j : Int, j ≤ (c 2 3 - s1 + much - 1) / much - 1 → s1 + j * much < c 2 3 := fun j hj => by
      have := mul_le_r (m := much) hj (by omega)
      omega
    have bd2 : ∀ j : Int, 0 ≤ j → j ≤ j * much := fun j hj => by
      have := Int.mul_le_mul_of_nonneg_left hm.1 hj
      omega
    have st : ∀ j : Nat, j < U → X xs d k_M_needsOf 32 [mR 130, mI p, mI (s1 + (j : Int) * much), mI (s2 + (j : Int)), mI much, mI (o : Int), mI (j : Int)] [] h = X xs d k_M_needsOf 32 [mR 130, mI p, mI (s1 + ((j + 1 : Nat) : Int) * much), mI (s2 + ((j + 1 : Nat) : Int)), mI much, mI (o : Int), mI ((j + 1 : Nat) : Int)] [] h := by
      intro j hj
      have b1 := bd j (by omega)
      have b2 := bd2 j (by omega)
      rw [e_M_needsOf_32]
      refine cI_of (pOf k) ?_
      refine if_y (by omega) ?_
      rw [k.r 3 (by omega) (by omega)]
      refine if_y (by omega) ?_
      refine if_y (by omega) ?_
      refine if_y (by omega) ?_
      refine if_y (by omega) ?_
      have e1 : s1 + ((j + 1 : Nat) : Int) * much = s1 + (j : Int) * much + much := by
        rw [Int.natCast_add, Int.add_mul]
        omega
      have e2 : s2 + ((j + 1 : Nat) : Int) = s2 + (j : Int) + 1 := by omega
      rw [e1, e2]
      rfl
    have r := run_to (fun j : Nat => X xs d k_M_needsOf 32 [mR 130, mI p, mI (s1 + (j : Int) * much), mI (s2 + (j : Int)), mI much, mI (o : Int), mI (j : Int)] [] h) st
    have e0 : s1 + ((0 : Nat) : Int) * much = s1 := by omega
    have e00 : s2 + ((0 : Nat) : Int) = s2 := by omega
    simp only [e0, e00] at r
    refine ⟨mI (U : Int), r.trans ?_⟩
    rw [e_M_needsOf_32]
    refine cI_of (pOf k) ?_
    by_cases z : (U : Int) < c 6 (o : Int)
    · rw [if_pos z, k.r 3 (by omega) (by omega)]
      have : (U : Int) = (c 2 3 - s1 + much - 1) / much := by omega
      rw [← this] at c3
      rw [if_neg (by omega)]
    · rw [if_neg z]
  · rw [if_neg q]
    refine ⟨mI 0, ?_⟩
    rw [e_M_needsOf_32]
    refine cI_of (pOf k) ?_
    rw [k.r 3 (by omega) (by omega), if_neg q]
    split <;> rfl
theorem m_inner (k : CoM c h) (w : WfC c) (hp : 0 ≤ p ∧ p < c 0 0) {much : Int} (hm : 1 ≤ much ∧ much ≤ 180) {s : Int × Int} (hs : goodS s) (x6 : mv) : ∃ x6', X xs d k_M_needsOf 13 [mR 130, mI p, mI s.1, mI s.2, mI much, mI 0, x6] [] h = X xs d k_M_needsOf 9 [mR 130, mI p, mI (inn c p much (c 0 0).toNat s).1, mI (inn c p much (c 0 0).toNat s).2, mI (much - 1), mI (c 0 0), x6'] [] h := by
  have hn := w.1
  have key : ∀ (m i : Nat) (x6 : mv), i + m = (c 0 0).toNat → ∃ x6', X xs d k_M_needsOf 13 [mR 130, mI p, mI (inn c p much i s).1, mI (inn c p much i s).2, mI much, mI (i : Int), x6] [] h = X xs d k_M_needsOf 9 [mR 130, mI p, mI (inn c p much (c 0 0).toNat s).1, mI (inn c p much (c 0 0).toNat s).2, mI (much - 1), mI (c 0 0), x6'] [] h := by
    intro m
    induction m with
    | zero =>
      intro i x6 hi
      refine ⟨x6, ?_⟩
      rw [e_M_needsOf_13, k.n, if_neg (by omega)]
      refine if_y (by omega) ?_
      rw [show i = (c 0 0).toNat by omega, show (((c 0 0).toNat : Nat) : Int) = c 0 0 by omega]
      rfl
    | succ m ih =>
      intro i x6 hi
      by_cases q : c 7 (i : Int) = p
      · by_cases q2 : warmI c (i : Int) = much
        · obtain ⟨x7, gl⟩ := m_glasses (xs := xs) (d := d) (p := p) k w (o := i) (by omega) hm (inn_good (p := p) w hm hs i (by omega))
          obtain ⟨x8, r⟩ := ih (i + 1) x7 (by omega)
          refine ⟨x8, ?_⟩
          rw [e_M_needsOf_13, k.n]
          refine if_y (by omega) ?_
          refine cI_of (m_whomOf k w (by omega)) ?_
          refine if_y (q) ?_
          refine cI_of (m_warmOf k w (by omega) (by omega)) ?_
          refine if_y (q2) ?_
          refine gl.trans ?_
          rw [e_M_needsOf_51]
          refine if_y (by omega) ?_
          rw [inn, if_pos ⟨q, q2⟩] at r
          exact r
        · obtain ⟨x8, r⟩ := ih (i + 1) x6 (by omega)
          refine ⟨x8, ?_⟩
          rw [e_M_needsOf_13, k.n]
          refine if_y (by omega) ?_
          refine cI_of (m_whomOf k w (by omega)) ?_
          refine if_y (q) ?_
          refine cI_of (m_warmOf k w (by omega) (by omega)) ?_
          refine if_n (q2) ?_
          rw [e_M_needsOf_51]
          refine if_y (by omega) ?_
          rw [inn, if_neg (fun z => q2 z.2)] at r
          exact r
      · obtain ⟨x8, r⟩ := ih (i + 1) x6 (by omega)
        refine ⟨x8, ?_⟩
        rw [e_M_needsOf_13, k.n]
        refine if_y (by omega) ?_
        refine cI_of (m_whomOf k w (by omega)) ?_
        refine if_n (q) ?_
        rw [e_M_needsOf_51]
        refine if_y (by omega) ?_
        rw [inn, if_neg (fun z => q z.1)] at r
        exact r
  exact key (c 0 0).toNat 0 x6 (by omega)
/-- what one needs; a far number: he cannot be lit -/
def needV (c : Kc) (p : Int) : Int := if (outW c p 180).1 < c 2 3 then 1000000 else (outW c p 180).2
theorem m_needsOf (k : CoM c h) (w : WfC c) (hp : 0 ≤ p ∧ p < c 0 0) : C xs d 177 0 [mR 130, mI p] h = some ([mI (needV c p)], h) := by
  have hn := w.1
  rw [c_M_needsOf]
  have a0 : C xs d 129 0 [mR 130, mI p, mI 2] h = some ([mI (c 5 p)], h) := by rw [m_personOf (by omega) (by omega), k.w _ hp.1 hp.2]
  refine cI_of (a0) ?_
  have key : ∀ (m t : Nat) (x5 x6 : mv), t + m = 180 → X xs d k_M_needsOf 9 [mR 130, mI p, mI (outW c p t).1, mI (outW c p t).2, mI (180 - (t : Int)), x5, x6] [] h = some ([mI (needV c p)], h) := by
    intro m
    induction m with
    | zero =>
      intro t x5 x6 ht
      obtain rfl : t = 180 := by omega
      rw [e_M_needsOf_9, if_neg (by omega), k.r 3 (by omega) (by omega)]
      unfold needV
      split <;> rfl
    | succ m ih =>
      intro t x5 x6 ht
      obtain ⟨x6', r⟩ := m_inner (xs := xs) (d := d) k w hp (much := 180 - (t : Int)) (by omega) (outW_good w hp t (by omega)) x6
      rw [e_M_needsOf_9, if_pos (by omega)]
      refine r.trans ?_
      have := ih (t + 1) (mI (c 0 0)) x6' (by omega)
      rw [show 180 - ((t + 1 : Nat) : Int) = 180 - (t : Int) - 1 by omega] at this
      exact this
  exact key 180 0 (mC 0) (mC 0) (by omega)
end
section
variable {xs : List Int} {d : Nat} {c : Kc} {h : mM} {p : Int}
def wmO (c : Kc) (q : Int) : Int := if c 7 q = -1 then 0 else warmI c q
/-- the first of the warmest of a set, of the first so many -/
def WmS (c : Kc) (x : Nat) (b m : Int) (n : Nat) : Prop := 0 ≤ m ∧ ((b = -1 ∧ m = 0 ∧ ∀ q : Nat, q < n → x.testBit q = true → wmO c q ≤ 0) ∨ ∃ B : Nat, b = (B : Int) ∧ B < n ∧ x.testBit B = true ∧ m = wmO c B ∧ 0 < m ∧ ∀ q : Nat, q < n → x.testBit q = true → wmO c q ≤ m ∧ (q < B → wmO c q < m))
theorem t_warmestOf (k : CoT 12 c h) (w : WfC c) {x : Nat} (hx : x < 128) : ∃ b m, C xs d 253 0 [mR 12, mI (x : Int)] h = some ([mI b], h) ∧ WmS c x b m (c 0 0).toNat := by
  have hn := w.1
  rw [c_Co_warmestOf]
  have key : ∀ (r i : Nat) (b m : Int), i + r = (c 0 0).toNat → WmS c x b m i → ∃ b' m', X xs d k_Co_warmestOf 6 [mR 12, mI (x : Int), mI b, mI m, mI (i : Int)] [] h = some ([mI b'], h) ∧ WmS c x b' m' (c 0 0).toNat := by
    intro r
    induction r with
    | zero =>
      intro i b m hi s
      refine ⟨b, m, ?_, (show i = (c 0 0).toNat by omega) ▸ s⟩
      rw [e_Co_warmestOf_6, k.n, if_neg (by omega)]
    | succ r ih =>
      intro i b m hi s
      have s1 := s.1
      have same : (x.testBit i = true → wmO c i ≤ m) → WmS c x b m (i + 1) := fun hm => by
        refine ⟨s1, ?_⟩
        rcases s.2 with ⟨a1, a2, a3⟩ | ⟨B, a1, a2, a3, a4, a5, a6⟩
        · refine Or.inl ⟨a1, a2, fun q hq hb => ?_⟩
          by_cases e : q = i
          · subst e; have := hm hb; omega
          · exact a3 q (by omega) hb
        · refine Or.inr ⟨B, a1, by omega, a3, a4, a5, fun q hq hb => ?_⟩
          by_cases e : q = i
          · subst e; exact ⟨hm hb, fun z => by omega⟩
          · exact a6 q (by omega) hb
      have wo := t_warmOf (xs := xs) (d := d) (b := 12) (by omega) k w (p := (i : Int)) (by omega)
      by_cases q : x.testBit i = true
      · by_cases q2 : m < wmO c i
        · obtain ⟨b', m', r1, r2⟩ := ih (i + 1) (i : Int) (wmO c i) (by omega) (by
            refine ⟨by omega, Or.inr ⟨i, rfl, by omega, q, rfl, by omega, fun t ht hb => ?_⟩⟩
            by_cases e : t = i
            · subst e; exact ⟨Int.le_refl _, fun z => by omega⟩
            · rcases s.2 with ⟨a1, a2, a3⟩ | ⟨B, a1, a2, a3, a4, a5, a6⟩
              · have := a3 t (by omega) hb; omega
              · have := (a6 t (by omega) hb).1; omega)
          refine ⟨b', m', ?_, r2⟩
          rw [e_Co_warmestOf_6, k.n]
          refine if_y (by omega) ?_
          rw [if_neg (by rw [and_b hx (by omega), q]; decide)]
          refine cI_of (wo) ?_
          rw [if_pos (show m < if c 7 (i : Int) = -1 then 0 else warmI c (i : Int) from q2)]
          refine cI_of (wo) ?_
          rw [e_Co_warmestOf_27]
          refine if_y (by omega) ?_
          exact r1
        · obtain ⟨b', m', r1, r2⟩ := ih (i + 1) b m (by omega) (same (fun _ => by omega))
          refine ⟨b', m', ?_, r2⟩
          rw [e_Co_warmestOf_6, k.n]
          refine if_y (by omega) ?_
          rw [if_neg (by rw [and_b hx (by omega), q]; decide)]
          refine cI_of (wo) ?_
          rw [if_neg (show ¬ m < if c 7 (i : Int) = -1 then 0 else warmI c (i : Int) from q2)]
          rw [e_Co_warmestOf_27]
          refine if_y (by omega) ?_
          exact r1
      · obtain ⟨b', m', r1, r2⟩ := ih (i + 1) b m (by omega) (same (fun z => absurd z q))
        refine ⟨b', m', ?_, r2⟩
        rw [Bool.not_eq_true] at q
        rw [e_Co_warmestOf_6, k.n]
        refine if_y (by omega) ?_
        rw [if_pos ((and_b hx (by omega)).mpr q)]
        rw [e_Co_warmestOf_27]
        refine if_y (by omega) ?_
        exact r1
  exact key (c 0 0).toNat 0 (-1) 0 (by omega) ⟨by omega, Or.inl ⟨rfl, rfl, fun q hq => by omega⟩⟩
theorem drop_bit : ∀ b, b < 7 → ∀ x, x < 128 → x.testBit b = true → bc (x &&& (127 - 2 ^ b)) + 1 = bc x := by decide +kernel
theorem and_lt128 {x y : Nat} (h : x < 128) : x &&& y < 128 := Nat.lt_of_le_of_lt Nat.and_le_left h
/-- who is left, behind all those that warm more, and so many of those that warm as much -/
def LeftW (c : Kc) (p : Int) (x : Nat) (t k : Nat) : Prop := x < 128 ∧ ∀ q : Nat, (q : Int) < c 0 0 → (x.testBit q = true → c 7 (q : Int) = p) ∧ (0 < warmI c q → c 7 (q : Int) = p → (x.testBit q = true ↔ warmI c q < 180 - (t : Int) ∨ warmI c q = 180 - (t : Int) ∧ k ≤ q))
def needT (c : Kc) (p : Int) : Int := if (outW c p 180).1 < c 2 3 then -1 else (outW c p 180).2
theorem needT_of {F : Int × Int} (hF : outW c p 180 = F) : needT c p = if F.1 < c 2 3 then -1 else F.2 := by
  subst hF
  rfl
theorem needV_of {F : Int × Int} (hF : outW c p 180 = F) : needV c p = if F.1 < c 2 3 then 1000000 else F.2 := by
  subst hF
  rfl
theorem t_done {i : Nat} {x : Int} {s : Int × Int} (h1 : c 2 3 ≤ s.1) (h2 : outW c p 180 = s) (x6 x7 x8 : mv) : X xs d k_Co_drinksTo 18 [mR 12, mI p, mI (c 2 3 - s.1), mI x, mI s.2, mI (i : Int), x6, x7, x8] [] h = some ([mI (needT c p)], h) := by
  have e : needT c p = s.2 := by rw [needT_of h2, if_neg (by omega)]
  rw [e_Co_drinksTo_18, e]
  by_cases q : (i : Int) < 7
  · rw [if_pos q, if_neg (by omega), if_neg (by omega)]
  · rw [if_neg q, if_neg (by omega)]
/-- from here on the class goes as the reference goes through all -/
def EndK (xs : List Int) (d : Nat) (c : Kc) (h : mM) (p : Int) (t : Nat) : Prop := ∀ (x i : Nat) (x6 x7 x8 : mv), LeftW c p x t 0 → i + bc x ≤ 7 → X xs d k_Co_drinksTo 18 [mR 12, mI p, mI (c 2 3 - (outW c p t).1), mI (x : Int), mI (outW c p t).2, mI (i : Int), x6, x7, x8] [] h = some ([mI (needT c p)], h)
theorem t_drinksEnd (k : CoT 12 c h) (w : WfC c) {T : Nat} (hT : T = 180) : EndK xs d c h p T := by
  have hn := w.1
  intro x i x6 x7 x8 lw hi
  generalize hF : outW c p T = F
  have hF' : outW c p 180 = F := by rw [← hT]; exact hF
  by_cases q : c 2 3 ≤ F.1
  · exact t_done q hF' x6 x7 x8
  · have e : needT c p = -1 := by rw [needT_of hF', if_pos (by omega)]
    rw [e]
    by_cases q2 : (i : Int) < 7
    · obtain ⟨b, v, r1, r2⟩ := t_warmestOf (xs := xs) (d := d) k w lw.1
      have hb : b = -1 := by
        rcases r2.2 with ⟨a1, _⟩ | ⟨B, a1, a2, a3, a4, a5, a6⟩
        · exact a1
        · exfalso
          have hq := (lw.2 B (by omega)).1 a3
          by_cases e1 : c 7 (B : Int) = -1
          · have : wmO c B = 0 := if_pos e1
            omega
          · have e2 : wmO c B = warmI c B := if_neg e1
            have := ((lw.2 B (by omega)).2 (by omega) hq).mp a3
            omega
      rw [e_Co_drinksTo_18]
      refine if_y (by omega) ?_
      rw [if_pos (by omega)]
      refine cI_of (r1) ?_
      refine if_y (hb) ?_
      rfl
    · rw [e_Co_drinksTo_18]
      refine if_n (by omega) ?_
      rw [if_pos (by omega)]
theorem t_drinksRow (k : CoT 12 c h) (w : WfC c) (hp : 0 ≤ p ∧ p < c 0 0) {t : Nat} (ht : t < 180) (nx : EndK xs d c h p (t + 1)) : ∀ (r n : Nat), n + r = (c 0 0).toNat → ∀ (x i : Nat) (x6 x7 x8 : mv), LeftW c p x t n → i + bc x ≤ 7 → X xs d k_Co_drinksTo 18 [mR 12, mI p, mI (c 2 3 - (inn c p (180 - (t : Int)) n (outW c p t)).1), mI (x : Int), mI (inn c p (180 - (t : Int)) n (outW c p t)).2, mI (i : Int), x6, x7, x8] [] h = some ([mI (needT c p)], h) := by
  have hn := w.1
  have hgl := w.2.2.2.2.1
  have gs0 := outW_good w hp t (by omega)
  intro r
  induction r with
  | zero =>
    intro n hr x i x6 x7 x8 lw hi
    have e1 : inn c p (180 - (t : Int)) n (outW c p t) = outW c p (t + 1) := by rw [outW, show n = (c 0 0).toNat by omega]
    rw [e1]
    exact nx x i x6 x7 x8 ⟨lw.1, fun q hq => ⟨(lw.2 q hq).1, fun h1 h2 => by
      rw [(lw.2 q hq).2 h1 h2]
      omega⟩⟩ hi
  | succ r ihr =>
    intro n hr x i x6 x7 x8 lw hi
    have gs := inn_good (p := p) w (much := 180 - (t : Int)) (by omega) gs0 n (by omega)
    by_cases q : isW c p (180 - (t : Int)) n
    · generalize hs : inn c p (180 - (t : Int)) n (outW c p t) = s at gs ⊢
      have hl := (w.2.2.2.2.2.2.2.2 n (by omega) (by omega)).2.2.2.1
      by_cases q2 : c 2 3 ≤ s.1
      · refine t_done q2 ?_ x6 x7 x8
        have e1 : outW c p (t + 1) = s := by
          rw [outW, inn_split (k := n) (by omega) (by rw [hs]; exact q2), hs]
        rw [outW_done (t := t + 1) (by rw [e1]; exact q2) 180 (by omega), e1]
      · have bit : x.testBit n = true := ((lw.2 n (by omega)).2 (by have := q.2; omega) q.1).mpr (Or.inr ⟨q.2, Nat.le_refl _⟩)
        have e7 : c 7 (n : Int) ≠ -1 := by have := q.1; omega
        have en : wmO c n = 180 - (t : Int) := by
          rw [show wmO c n = warmI c n from if_neg e7]
          exact q.2
        have dp := drop_bit n (by omega) x lw.1 bit
        obtain ⟨b, v, r1, r2⟩ := t_warmestOf (xs := xs) (d := d) k w lw.1
        have hb : b = (n : Int) := by
          rcases r2.2 with ⟨a1, a2, a3⟩ | ⟨B, a1, a2, a3, a4, a5, a6⟩
          · have := a3 n (by omega) bit
            omega
          · have hq := (lw.2 B (by omega)).1 a3
            have e2 : wmO c B = warmI c B := if_neg (by omega)
            have m1 := ((lw.2 B (by omega)).2 (by omega) hq).mp a3
            have m2 := (a6 n (by omega) bit).1
            have m3 := (a6 n (by omega) bit).2
            by_cases z : n < B
            · have := m3 z
              omega
            · omega
        subst hb
        have i7 : (i : Int) < 7 := by omega
        have wo := t_warmOf (xs := xs) (d := d) (b := 12) (by omega) k w (p := (n : Int)) (by omega)
        have e3 : (if c 7 (n : Int) = -1 then 0 else warmI c (n : Int)) = 180 - (t : Int) := en
        rw [e3] at wo
        have u := ihr (n + 1) (by omega) (x &&& (127 - 2 ^ n)) (i + 1) (mI (n : Int)) (mI (180 - (t : Int))) (mI (min (c 6 (n : Int)) ((c 2 3 - s.1 + (180 - (t : Int)) - 1) / (180 - (t : Int))))) (by
          refine ⟨and_lt128 lw.1, fun q' hq' => ⟨fun z => (lw.2 q' hq').1 ?_, fun h1 h2 => ?_⟩⟩
          · rw [Nat.testBit_and, Bool.and_eq_true] at z
            exact z.1
          · rw [Nat.testBit_and, Bool.and_eq_true, not_bit n (by omega) q' (by omega), (lw.2 q' hq').2 h1 h2, decide_eq_true_iff]
            have q22 := q.2
            constructor
            · rintro ⟨z1, z2⟩
              omega
            · intro z
              refine ⟨by omega, fun e => ?_⟩
              subst e
              omega) (by omega)
        rw [inn, if_pos q, hs] at u
        have bd := useW_bd (gl := c 2 3) (much := 180 - (t : Int)) (g := c 6 (n : Int)) (s := s) hl.1 (by omega) hgl gs
        unfold useW at u bd
        rw [if_pos (by omega)] at u bd
        simp only at u bd
        unfold goodS at gs
        obtain ⟨c1, c2, c3⟩ := ceil_bd (a := c 2 3 - s.1) (m := 180 - (t : Int)) (by omega) (by omega)
        rw [e_Co_drinksTo_18]
        refine if_y (by omega) ?_
        rw [if_pos (by omega)]
        refine cI_of (r1) ?_
        refine if_n (by omega) ?_
        refine cI_of (wo) ?_
        rw [show max 1 (180 - (t : Int)) = 180 - (t : Int) by omega, show h 17 (n : Int) = c 6 n from k.l _ (by omega) (by omega)]
        generalize hu : min (c 6 (n : Int)) ((c 2 3 - s.1 + (180 - (t : Int)) - 1) / (180 - (t : Int))) = U at u bd ⊢
        have b0 : 0 ≤ U := by omega
        have b1 : U * 1 ≤ U * (180 - (t : Int)) := Int.mul_le_mul_of_nonneg_left (by omega) b0
        refine if_y (by omega) ?_
        refine if_y (by omega) ?_
        refine if_y (by omega) ?_
        refine if_y (by omega) ?_
        refine if_y (by omega) ?_
        refine if_y (by omega) ?_
        refine if_y (by omega) ?_
        refine if_y (by omega) ?_
        rw [not_small n (by omega) x lw.1]
        rw [show c 2 3 - (s.1 + U * (180 - (t : Int))) = c 2 3 - s.1 - U * (180 - (t : Int)) by omega] at u
        exact u
    · have u := ihr (n + 1) (by omega) x i x6 x7 x8 (by
        refine ⟨lw.1, fun q' hq' => ⟨(lw.2 q' hq').1, fun h1 h2 => ?_⟩⟩
        rw [(lw.2 q' hq').2 h1 h2]
        by_cases e : q' = n
        · subst e
          have : ¬ warmI c (q' : Int) = 180 - (t : Int) := fun z => q ⟨h2, z⟩
          omega
        · omega) hi
      rw [inn, if_neg q] at u
      exact u
theorem t_drinksTo (k : CoT 12 c h) (w : WfC c) (hp : 0 ≤ p ∧ p < c 0 0) : C xs d 252 0 [mR 12, mI p] h = some ([mI (needT c p)], h) := by
  have hn := w.1
  have all : ∀ m t, t + m = 180 → EndK xs d c h p t := by
    intro m
    induction m with
    | zero =>
      intro t ht
      exact t_drinksEnd k w (by omega)
    | succ m ih =>
      intro t ht x i x6 x7 x8 lw hi
      exact t_drinksRow k w hp (by omega) (ih (t + 1) (by omega)) (c 0 0).toNat 0 (by omega) x i x6 x7 x8 lw hi
  have hw := (w.2.2.2.2.2.2.2.2 p hp.1 hp.2).2.2.1
  have hgl := w.2.2.2.2.1
  have x128 := sq_small (P := warB c p) (n := (c 0 0).toNat) (by omega)
  have u := all 180 0 (by omega) (sq (warB c p) (c 0 0).toNat) 0 (mC 0) (mC 0) (mC 0) (by
    refine ⟨x128, fun q hq => ?_⟩
    rw [sq_bit, decide_eq_true (show q < (c 0 0).toNat by omega), Bool.true_and]
    unfold warB
    rw [decide_eq_true_iff]
    refine ⟨fun z => z, fun h1 h2 => ⟨fun _ => ?_, fun _ => h2⟩⟩
    have := warmI_bd w (p := (q : Int)) (by omega) (by omega)
    omega) (by have := bc_7 _ x128; omega)
  rw [c_Co_drinksTo]
  refine if_y (by omega) ?_
  rw [show h 13 3 = c 2 3 from k.r 3 (by omega) (by omega), show h 16 p = c 5 p from k.w _ hp.1 hp.2]
  refine if_y (by omega) ?_
  refine cI_of (t_warmersOf k w p) ?_
  exact u
end
