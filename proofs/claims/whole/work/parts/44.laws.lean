/-! EQUIV 14: by which law -/
theorem fL2i_id {v : Int} (h1 : -2147483648 ≤ v) (h2 : v ≤ 2147483647) : fL2i v = v := by
  unfold fL2i
  rw [Int64.toInt32_ofInt, Int32.toInt_ofInt_of_le (by omega) (by omega)]
section
variable {xs : List Int} {d : Nat} {h : mM}
/-- whether so many rows are in a tray -/
def rwS (h : mM) (x n most width : Int) : Int := if (0 ≤ x ∧ x < 4) ∧ 0 ≤ n ∧ n ≤ most then (if h 8 x = -1 then 2 else if n * width ≤ h 8 x then 0 else 3) else 1
theorem t_rowsStatus {x n most width : Int} (hw : (most = 15 ∧ width = 3) ∨ (most = 10 ∧ width = 2)) : C xs d 50 0 [mR 0, mI x, mI n, mI most, mI width] h = some ([mI (rwS h x n most width)], h) := by
  unfold rwS
  rw [c_T_rowsStatus]
  refine cI_of (t_isTray x) ?_
  by_cases q : 0 ≤ x ∧ x < 4
  rotate_left
  · refine if_y (b2i_0.mpr q) ?_
    rw [if_neg (fun z => q z.1)]
  refine if_n ((fun z => b2i_0.mp z q)) ?_
  refine cI_of (t_within) ?_
  by_cases q2 : 0 ≤ n ∧ n ≤ most
  rotate_left
  · refine if_y (b2i_0.mpr q2) ?_
    rw [if_neg (fun z => q2 z.2)]
  refine if_n ((fun z => b2i_0.mp z q2)) ?_
  rw [if_pos ⟨q, q2⟩]
  refine cI_of (t_isMissing q) ?_
  by_cases q3 : h 8 x = -1
  · refine if_n ((fun z => b2i_0.mp z q3)) ?_
    rw [if_pos q3]
  refine if_y (b2i_0.mpr q3) ?_
  rw [if_neg q3]
  have bd : inI (n * width) := by
    rcases hw with ⟨rfl, rfl⟩ | ⟨rfl, rfl⟩ <;> omega
  refine if_y (bd) ?_
  refine cI_of (t_length q) ?_
  by_cases q4 : n * width ≤ h 8 x
  · rw [if_neg (by omega), if_pos q4]
  · rw [if_pos (by omega), if_neg q4]
theorem rwS_ok {x n most width : Int} (e : rwS h x n most width = 0) : (0 ≤ x ∧ x < 4) ∧ (0 ≤ n ∧ n ≤ most) ∧ h 8 x ≠ -1 ∧ n * width ≤ h 8 x := by
  unfold rwS at e
  by_cases q : (0 ≤ x ∧ x < 4) ∧ 0 ≤ n ∧ n ≤ most
  · rw [if_pos q] at e
    by_cases q2 : h 8 x = -1
    · rw [if_pos q2] at e; omega
    · rw [if_neg q2] at e
      by_cases q3 : n * width ≤ h 8 x
      · exact ⟨q.1, q.2, q2, q3⟩
      · rw [if_neg q3] at e; omega
  · rw [if_neg q] at e; omega
abbrev okL (h : mM) (x : Int) (i : Nat) : Prop := (0 ≤ h (3 + x.toNat) (3 * (i : Int)) ∧ h (3 + x.toNat) (3 * (i : Int)) ≤ 9) ∧ (0 ≤ h (3 + x.toNat) (3 * (i : Int) + 1) ∧ h (3 + x.toNat) (3 * (i : Int) + 1) ≤ 59) ∧ 0 ≤ h (3 + x.toNat) (3 * (i : Int) + 2) ∧ h (3 + x.toNat) (3 * (i : Int) + 2) ≤ 200
def lwS (h : mM) (x n : Int) : Int := if rwS h x n 15 3 = 0 then (if ∀ i : Nat, i < n.toNat → okL h x i then 0 else 5) else rwS h x n 15 3
theorem t_lawStatus (x n : Int) : C xs d 55 0 [mR 0, mI x, mI n] h = some ([mI (lwS h x n)], h) := by
  unfold lwS
  rw [c_T_lawStatus]
  refine cI_of (t_rowsStatus (Or.inl ⟨rfl, rfl⟩)) ?_
  by_cases q : rwS h x n 15 3 = 0
  rotate_left
  · rw [if_neg q, if_neg q]
  rw [if_pos q, if_pos q]
  obtain ⟨hx, hn, h8, hl⟩ := rwS_ok q
  have key : ∀ (m i : Nat) (x5 x7 x9 : mv), i + m = n.toNat → (∀ j, j < i → okL h x j) → X xs d k_T_lawStatus 13 [mR 0, mI x, mI n, mI (rwS h x n 15 3), mI (i : Int), x5, mC 0, x7, mC 0, x9, mC 0] [] h = some ([mI (if ∀ i : Nat, i < n.toNat → okL h x i then 0 else 5)], h) := by
    intro m
    induction m with
    | zero =>
      intro i x5 x7 x9 hi ok
      rw [e_T_lawStatus_13, if_neg (by omega), if_pos (fun j hj => ok j (by omega))]
    | succ m ih =>
      intro i x5 x7 x9 hi ok
      have l60 : n * 3 ≤ 45 := by omega
      rw [e_T_lawStatus_13]
      refine if_y (by omega) ?_
      refine if_y (by omega) ?_
      refine cL_of (t_atTr hx (by omega)) ?_
      refine if_y (by omega) ?_
      refine if_y (by omega) ?_
      refine cL_of (t_atTr hx (by omega)) ?_
      refine if_y (by omega) ?_
      refine if_y (by omega) ?_
      refine cL_of (t_atTr hx (by omega)) ?_
      by_cases z : okL h x i
      · iterate 6 refine if_n (by omega) ?_
        refine if_y (by omega) ?_
        exact ih (i + 1) _ _ _ (by omega) (fun j hj => by
          by_cases e : j = i
          · subst e; exact z
          · exact ok j (by omega))
      · have no : ¬ ∀ i : Nat, i < n.toNat → okL h x i := fun y => z (y i (by omega))
        rw [if_neg no]
        by_cases z1 : h (3 + x.toNat) (3 * (i : Int)) < 0
        · rw [if_pos z1]
        rw [if_neg z1]
        by_cases z2 : 9 < h (3 + x.toNat) (3 * (i : Int))
        · rw [if_pos z2]
        rw [if_neg z2]
        by_cases z3 : h (3 + x.toNat) (3 * (i : Int) + 1) < 0
        · rw [if_pos z3]
        rw [if_neg z3]
        by_cases z4 : 59 < h (3 + x.toNat) (3 * (i : Int) + 1)
        · rw [if_pos z4]
        rw [if_neg z4]
        by_cases z5 : h (3 + x.toNat) (3 * (i : Int) + 2) < 0
        · rw [if_pos z5]
        rw [if_neg z5, if_pos (by omega)]
  exact key n.toNat 0 (mC 0) (mC 0) (mC 0) (by omega) (fun j hj => by omega)
theorem m_wrongLaw (T : TrR h) {g : mM} (e134 : g 134 = h 134) (e135 : g 135 = h 135) (x n : Int) : C xs d 194 0 [mR 130, mI x, mI n] g = some ([mI (lwS h x n)], g) := by
  unfold lwS
  rw [c_M_wrongLaw]
  refine cI_of (m_isTray x) ?_
  by_cases q : 0 ≤ x ∧ x < 4
  rotate_left
  · refine if_y (b2i_0.mpr q) ?_
    have : rwS h x n 15 3 = 1 := if_neg (fun z => q z.1)
    rw [this]
    rfl
  refine if_n ((fun z => b2i_0.mp z q)) ?_
  refine cI_of (m_isFrom) ?_
  by_cases q2 : 0 ≤ n ∧ n ≤ 15
  rotate_left
  · refine if_y (b2i_0.mpr q2) ?_
    have : rwS h x n 15 3 = 1 := if_neg (fun z => q2 z.2)
    rw [this]
    rfl
  refine if_n ((fun z => b2i_0.mp z q2)) ?_
  have rw1 : rwS h x n 15 3 = (if h 8 x = -1 then 2 else if n * 3 ≤ h 8 x then 0 else 3) := if_pos ⟨q, q2⟩
  obtain ⟨t1, t2, t3, t4, t5⟩ := T.at' q
  refine if_y (by omega) ?_
  rw [e134, ← t2]
  by_cases q3 : h 8 x = -1
  · refine if_y (q3) ?_
    rw [rw1, if_pos q3]
    rfl
  refine if_n (q3) ?_
  refine if_y (by omega) ?_
  refine if_y (by omega) ?_
  rw [if_neg q3] at rw1
  by_cases q4 : n * 3 ≤ h 8 x
  rotate_left
  · rw [if_pos (by omega), rw1, if_neg q4]
    rfl
  rw [if_neg (by omega), rw1, if_pos q4, if_pos rfl]
  have src : ∀ j, 0 ≤ j → j < 3 * n → g 135 (60 * x + j) = h (3 + x.toNat) j := fun j h1 h2 => by rw [e135, (t5 j h1 (by omega)).1]
  have key : ∀ (m i : Nat) (x4 : mv), i + m = n.toNat → (∀ j, j < i → okL h x j) → X xs d k_M_wrongLaw 31 [mR 130, mI x, mI n, mI (i : Int), x4] [] g = some ([mI (if ∀ i : Nat, i < n.toNat → okL h x i then 0 else 5)], g) := by
    intro m
    induction m with
    | zero =>
      intro i x4 hi ok
      rw [e_M_wrongLaw_31, if_neg (by omega), if_pos (fun j hj => ok j (by omega))]
    | succ m ih =>
      intro i x4 hi ok
      rw [e_M_wrongLaw_31]
      refine if_y (by omega) ?_
      refine if_y (by omega) ?_
      refine if_y (by omega) ?_
      refine if_y (by omega) ?_
      refine if_y (by omega) ?_
      refine cI_of (m_isFrom) ?_
      rw [src _ (by omega) (by omega)]
      by_cases z1 : 0 ≤ h (3 + x.toNat) (3 * (i : Int)) ∧ h (3 + x.toNat) (3 * (i : Int)) ≤ 9
      rotate_left
      · refine if_y (b2i_0.mpr z1) ?_
        rw [if_neg (fun y => z1 (y i (by omega)).1)]
      refine if_n ((fun z => b2i_0.mp z z1)) ?_
      refine if_y (by omega) ?_
      refine if_y (by omega) ?_
      refine cI_of (m_isFrom) ?_
      rw [show 60 * x + 3 * (i : Int) + 1 = 60 * x + (3 * (i : Int) + 1) by omega, src _ (by omega) (by omega)]
      by_cases z2 : 0 ≤ h (3 + x.toNat) (3 * (i : Int) + 1) ∧ h (3 + x.toNat) (3 * (i : Int) + 1) ≤ 59
      rotate_left
      · refine if_y (b2i_0.mpr z2) ?_
        rw [if_neg (fun y => z2 (y i (by omega)).2.1)]
      refine if_n ((fun z => b2i_0.mp z z2)) ?_
      refine if_y (by omega) ?_
      refine if_y (by omega) ?_
      refine cI_of (m_isFrom) ?_
      rw [show 60 * x + 3 * (i : Int) + 2 = 60 * x + (3 * (i : Int) + 2) by omega, src _ (by omega) (by omega)]
      by_cases z3 : 0 ≤ h (3 + x.toNat) (3 * (i : Int) + 2) ∧ h (3 + x.toNat) (3 * (i : Int) + 2) ≤ 200
      rotate_left
      · refine if_y (b2i_0.mpr z3) ?_
        rw [if_neg (fun y => z3 (y i (by omega)).2.2)]
      refine if_n ((fun z => b2i_0.mp z z3)) ?_
      refine if_y (by omega) ?_
      exact ih (i + 1) _ (by omega) (fun j hj => by
        by_cases e : j = i
        · subst e; exact ⟨z1, z2, z3⟩
        · exact ok j (by omega))
  exact key n.toNat 0 (mC 0) (by omega) (fun j hj => by omega)
/-- a law is so for all rows -/
abbrev lawP (h : mM) (x : Int) (n : Nat) (heat reach : Int) : Prop := ∀ i : Nat, i < n → wmI heat (h (3 + x.toNat) (3 * (i : Int))) (h (3 + x.toNat) (3 * (i : Int) + 1)) reach = h (3 + x.toNat) (3 * (i : Int) + 2)
theorem t_isLaw {x : Int} (hx : 0 ≤ x ∧ x < 4) {n : Nat} (hn : n ≤ 15) (ok : ∀ i : Nat, i < n → okL h x i) {heat reach : Int} (h1 : 1 ≤ heat ∧ heat ≤ 20) (h2 : 1 ≤ reach ∧ reach ≤ 9) : C xs d 56 0 [mR 0, mI x, mI (n : Int), mI heat, mI reach] h = some ([mI (b2i (lawP h x n heat reach))], h) := by
  rw [c_T_isLaw]
  have key : ∀ (m i : Nat) (x6 x7 : mv), i + m = n → (∀ j : Nat, j < i → wmI heat (h (3 + x.toNat) (3 * (j : Int))) (h (3 + x.toNat) (3 * (j : Int) + 1)) reach = h (3 + x.toNat) (3 * (j : Int) + 2)) → X xs d k_T_isLaw 2 [mR 0, mI x, mI (n : Int), mI heat, mI reach, mI (i : Int), x6, x7] [] h = some ([mI (b2i (lawP h x n heat reach))], h) := by
    intro m
    induction m with
    | zero =>
      intro i x6 x7 hi ok'
      rw [e_T_isLaw_2, if_neg (by omega), b2i_y (fun j hj => ok' j (by omega))]
    | succ m ih =>
      intro i x6 x7 hi ok'
      obtain ⟨o1, o2, o3⟩ := ok i (by omega)
      rw [e_T_isLaw_2]
      refine if_y (by omega) ?_
      refine if_y (by omega) ?_
      refine cL_of (t_atTr hx (by omega)) ?_
      refine if_y (by omega) ?_
      refine if_y (by omega) ?_
      refine cL_of (t_atTr hx (by omega)) ?_
      rw [fL2i_id (by omega) (by omega), fL2i_id (by omega) (by omega)]
      refine cI_of (t_warmBy (by omega) o1 (by omega) (by omega)) ?_
      refine if_y (by omega) ?_
      refine if_y (by omega) ?_
      refine cL_of (t_atTr hx (by omega)) ?_
      by_cases z : wmI heat (h (3 + x.toNat) (3 * (i : Int))) (h (3 + x.toNat) (3 * (i : Int) + 1)) reach = h (3 + x.toNat) (3 * (i : Int) + 2)
      · refine if_y (z) ?_
        refine if_y (by omega) ?_
        exact ih (i + 1) _ _ (by omega) (fun j hj => by
          by_cases e : j = i
          · subst e; exact z
          · exact ok' j (by omega))
      · refine if_n (z) ?_
        rw [b2i_n (fun y => z (y i (by omega)))]
  exact key n 0 (mC 0) (mC 0) (by omega) (fun j hj => by omega)
theorem m_isLaw {g : mM} {x : Int} (hx : 0 ≤ x ∧ x < 4) {n : Nat} (hn : n ≤ 15) (src : ∀ j, 0 ≤ j → j < 3 * (n : Int) → g 135 (60 * x + j) = h (3 + x.toNat) j) (ok : ∀ i : Nat, i < n → okL h x i) {law : Int} (h1 : 11 ≤ law ∧ law < 210) (h2 : 0 < law % 10) : C xs d 195 0 [mR 130, mI law, mI x, mI (n : Int)] g = some ([mI (b2i (lawP h x n (law / 10) (law % 10)))], g) := by
  rw [c_M_isLaw]
  have key : ∀ (m i : Nat) (x6 : mv), i + m = n → (∀ j : Nat, j < i → wmI (law / 10) (h (3 + x.toNat) (3 * (j : Int))) (h (3 + x.toNat) (3 * (j : Int) + 1)) (law % 10) = h (3 + x.toNat) (3 * (j : Int) + 2)) → X xs d k_M_isLaw 2 [mR 130, mI law, mI x, mI (n : Int), mI (i : Int), x6] [] g = some ([mI (b2i (lawP h x n (law / 10) (law % 10)))], g) := by
    intro m
    induction m with
    | zero =>
      intro i x6 hi ok'
      rw [e_M_isLaw_2, if_neg (by omega), b2i_y (fun j hj => ok' j (by omega))]
      refine if_y (by omega) ?_
      refine if_y (by omega) ?_
      rfl
    | succ m ih =>
      intro i x6 hi ok'
      obtain ⟨o1, o2, o3⟩ := ok i (by omega)
      rw [e_M_isLaw_2]
      refine if_y (by omega) ?_
      refine if_y (by omega) ?_
      refine if_y (by omega) ?_
      refine if_y (by omega) ?_
      refine if_y (by omega) ?_
      refine if_y (by omega) ?_
      refine if_y (by omega) ?_
      refine if_y (by omega) ?_
      refine if_y (by omega) ?_
      rw [src _ (by omega) (by omega), show 60 * x + 3 * (i : Int) + 1 = 60 * x + (3 * (i : Int) + 1) by omega, src _ (by omega) (by omega), fL2i_id (by omega) (by omega), fL2i_id (by omega) (by omega)]
      refine cI_of (m_warmBy (by omega) o1 (by omega) (by omega)) ?_
      refine if_y (by omega) ?_
      refine if_y (by omega) ?_
      rw [show 60 * x + 3 * (i : Int) + 2 = 60 * x + (3 * (i : Int) + 2) by omega, src _ (by omega) (by omega)]
      by_cases z : wmI (law / 10) (h (3 + x.toNat) (3 * (i : Int))) (h (3 + x.toNat) (3 * (i : Int) + 1)) (law % 10) = h (3 + x.toNat) (3 * (i : Int) + 2)
      · refine if_y (z) ?_
        refine if_y (by omega) ?_
        exact ih (i + 1) _ (by omega) (fun j hj => by
          by_cases e : j = i
          · subst e; exact z
          · exact ok' j (by omega))
      · refine if_n (z) ?_
        rw [b2i_n (fun y => z (y i (by omega)))]
  exact key n 0 (mC 0) (by omega) (fun j hj => by omega)
/-- whether a number is that of a law that is so -/
abbrev lwP (h : mM) (x : Int) (n : Nat) (L : Nat) : Prop := 0 < (L : Int) % 10 ∧ lawP h x n ((L : Int) / 10) ((L : Int) % 10)
def lwF (h : mM) (x : Int) (n : Nat) : Nat → Int := fun k => b2i (lwP h x n (k + 11))
theorem lwF_bd (x : Int) (n k : Nat) : 0 ≤ sumN (lwF h x n) k ∧ sumN (lwF h x n) k ≤ 1 * k := sumN_bd (fun j _ => b2i_01)
theorem mostR : (nth (CT xs 3) (5 : Int).toNat).getD 0 = 20 ∧ (nth (CT xs 3) (6 : Int).toNat).getD 0 = 9 := ⟨rfl, rfl⟩
theorem t_lawsLoop {x : Int} (hx : 0 ≤ x ∧ x < 4) {n : Nat} (hn : n ≤ 15) (ok : ∀ i : Nat, i < n → okL h x i) (x3 : Int) : ∀ (m heat : Nat), heat + m = 21 → 1 ≤ heat → ∀ x6 : mv, X xs d k_T_laws 15 [mR 0, mI x, mI (n : Int), mI x3, mI (sumN (lwF h x n) (10 * heat - 10)), mI (heat : Int), x6] [] h = some ([mI (sumN (lwF h x n) 199)], upM h 0 0 0) := by
  have row : ∀ (heat r reach : Nat), reach + r = 10 → 1 ≤ heat → heat ≤ 20 → 1 ≤ reach → X xs d k_T_laws 22 [mR 0, mI x, mI (n : Int), mI x3, mI (sumN (lwF h x n) (10 * heat + reach - 11)), mI (heat : Int), mI (reach : Int)] [] h = X xs d k_T_laws 15 [mR 0, mI x, mI (n : Int), mI x3, mI (sumN (lwF h x n) (10 * heat - 1)), mI ((heat : Int) + 1), mI 10] [] h := by
    intro heat r
    induction r with
    | zero =>
      intro reach hr h1 h2 h3
      obtain rfl : reach = 10 := by omega
      rw [e_T_laws_22, mostR.2]
      refine if_y (by omega) ?_
      refine if_y (by omega) ?_
      rw [show 10 * heat + 10 - 11 = 10 * heat - 1 by omega]
      rfl
    | succ r ih =>
      intro reach hr h1 h2 h3
      have bd := lwF_bd (h := h) x n (10 * heat + reach - 11)
      have nx := ih (reach + 1) (by omega) h1 h2 (by omega)
      have ek : 10 * heat + (reach + 1) - 11 = 10 * heat + reach - 11 + 1 := by omega
      have e10 : ((10 * heat + reach - 11 + 11 : Nat) : Int) = 10 * (heat : Int) + (reach : Int) := by omega
      have ed : (10 * (heat : Int) + (reach : Int)) / 10 = heat := by omega
      have em : (10 * (heat : Int) + (reach : Int)) % 10 = reach := by omega
      rw [ek, sumN_s] at nx
      rw [e_T_laws_22, mostR.2]
      refine if_n (by omega) ?_
      refine cI_of (t_isLaw hx hn ok (by omega) (by omega)) ?_
      by_cases q : lawP h x n (heat : Int) (reach : Int)
      · refine if_n ((fun z => b2i_0.mp z q)) ?_
        refine if_y (by omega) ?_
        rw [e_T_laws_35]
        refine if_y (by omega) ?_
        have f1 : lwF h x n (10 * heat + reach - 11) = 1 := b2i_y (by
          unfold lwP
          rw [e10, ed, em]
          exact ⟨by omega, q⟩)
        rw [f1] at nx
        exact nx
      · refine if_y (b2i_0.mpr q) ?_
        rw [e_T_laws_35]
        refine if_y (by omega) ?_
        have f1 : lwF h x n (10 * heat + reach - 11) = 0 := b2i_n (by
          unfold lwP
          rw [e10, ed, em]
          exact fun z => q z.2)
        rw [f1, Int.add_zero] at nx
        exact nx
  intro m
  induction m with
  | zero =>
    intro heat hm h1 x6
    obtain rfl : heat = 21 := by omega
    rw [e_T_laws_15, mostR.1]
    refine if_y (by omega) ?_
    have f1 : lwF h x n 199 = 0 := b2i_n (by
      intro z
      exact absurd z.1 (by decide))
    have : sumN (lwF h x n) (10 * 21 - 10) = sumN (lwF h x n) 199 := by
      show sumN (lwF h x n) (199 + 1) = _
      rw [sumN_s, f1, Int.add_zero]
    rw [this]
    refine cI_of (c_T_answer xs d _ _) ?_
    rfl
  | succ m ih =>
    intro heat hm h1 x6
    rw [e_T_laws_15, mostR.1]
    refine if_n (by omega) ?_
    have r := row heat 9 1 (by omega) h1 (by omega) (by omega)
    rw [show 10 * heat + 1 - 11 = 10 * heat - 10 by omega] at r
    refine r.trans ?_
    have nx := ih (heat + 1) (by omega) (by omega) (mI 10)
    have e : 10 * (heat + 1) - 10 = 10 * heat - 1 + 1 := by omega
    have f1 : lwF h x n (10 * heat - 1) = 0 := b2i_n (by
      intro z
      have := z.1
      omega)
    rw [e, sumN_s, f1, Int.add_zero] at nx
    exact nx
theorem m_lawsLoop {g : mM} {x : Int} (hx : 0 ≤ x ∧ x < 4) {n : Nat} (hn : n ≤ 15) (src : ∀ j, 0 ≤ j → j < 3 * (n : Int) → g 135 (60 * x + j) = h (3 + x.toNat) j) (ok : ∀ i : Nat, i < n → okL h x i) (x3 : Int) : X xs d k_M_laws 15 [mR 130, mI x, mI (n : Int), mI x3, mI 0, mI 11] [] g = some ([mI (sumN (lwF h x n) 199)], upM g 130 2 0) := by
  have st : ∀ k : Nat, k < 199 → X xs d k_M_laws 15 [mR 130, mI x, mI (n : Int), mI x3, mI (sumN (lwF h x n) k), mI ((k + 11 : Nat) : Int)] [] g = X xs d k_M_laws 15 [mR 130, mI x, mI (n : Int), mI x3, mI (sumN (lwF h x n) (k + 1)), mI ((k + 1 + 11 : Nat) : Int)] [] g := by
    intro k hk
    have bd := lwF_bd (h := h) x n k
    rw [sumN_s, e_M_laws_15]
    refine if_y (by omega) ?_
    refine if_y (by omega) ?_
    have e31 : lwF h x n k = 0 → X xs d k_M_laws 31 [mR 130, mI x, mI (n : Int), mI x3, mI (sumN (lwF h x n) k), mI ((k + 11 : Nat) : Int)] [mI (sumN (lwF h x n) k)] g = X xs d k_M_laws 15 [mR 130, mI x, mI (n : Int), mI x3, mI (sumN (lwF h x n) k + lwF h x n k), mI ((k + 1 + 11 : Nat) : Int)] [] g := fun e => by
      rw [e_M_laws_31, e_M_laws_32]
      refine if_y (by omega) ?_
      refine if_y (by omega) ?_
      rw [e, show ((k + 1 + 11 : Nat) : Int) = ((k + 11 : Nat) : Int) + 1 by omega]
    by_cases q : 0 < ((k + 11 : Nat) : Int) % 10
    · rw [if_pos q]
      refine cI_of (m_isLaw hx hn src ok (by omega) q) ?_
      by_cases z : lawP h x n (((k + 11 : Nat) : Int) / 10) (((k + 11 : Nat) : Int) % 10)
      · refine if_n ((fun y => b2i_0.mp y z)) ?_
        rw [e_M_laws_32]
        refine if_y (by omega) ?_
        refine if_y (by omega) ?_
        have f1 : lwF h x n k = 1 := b2i_y ⟨q, z⟩
        rw [f1, show ((k + 1 + 11 : Nat) : Int) = ((k + 11 : Nat) : Int) + 1 by omega]
      · refine if_y (b2i_0.mpr z) ?_
        exact e31 (b2i_n (fun y => z y.2))
    · rw [if_neg q]
      exact e31 (b2i_n (fun y => q y.1))
  refine (run_to (fun k : Nat => X xs d k_M_laws 15 [mR 130, mI x, mI (n : Int), mI x3, mI (sumN (lwF h x n) k), mI ((k + 11 : Nat) : Int)] [] g) st).trans ?_
  rw [e_M_laws_15, if_neg (by omega)]
  refine cI_of (c_M_gives xs d _ _) ?_
  rfl
theorem lwS_ok {x n : Int} (e : lwS h x n = 0) : (0 ≤ x ∧ x < 4) ∧ (0 ≤ n ∧ n ≤ 15) ∧ h 8 x ≠ -1 ∧ n * 3 ≤ h 8 x ∧ ∀ i : Nat, i < n.toNat → okL h x i := by
  unfold lwS at e
  by_cases q : rwS h x n 15 3 = 0
  · rw [if_pos q] at e
    obtain ⟨a, b, c, d⟩ := rwS_ok q
    by_cases z : ∀ i : Nat, i < n.toNat → okL h x i
    · exact ⟨a, b, c, d, z⟩
    · rw [if_neg z] at e; omega
  · rw [if_neg q] at e
    exact absurd e q
theorem rwS_pos (x n m v : Int) : 0 ≤ rwS h x n m v ∧ rwS h x n m v ≤ 3 := by
  unfold rwS
  split
  · split
    · omega
    · split <;> omega
  · omega
theorem lwS_pos (x n : Int) : 0 ≤ lwS h x n := by
  have := rwS_pos (h := h) x n 15 3
  unfold lwS
  by_cases q : rwS h x n 15 3 = 0
  · rw [if_pos q]
    by_cases z : ∀ i : Nat, i < n.toNat → okL h x i
    · rw [if_pos z]; omega
    · rw [if_neg z]; omega
  · rw [if_neg q]; omega
theorem q_laws (R : Rel h) (x y : Int) : QI xs d h 51 196 [mI x, mI y] := by
  have T := R.tp
  have ps := lwS_pos (h := h) x y
  by_cases q : lwS h x y = 0
  · obtain ⟨hx, hn, h8, hl, ok⟩ := lwS_ok q
    obtain ⟨t1, t2, t3, t4, t5⟩ := T.at' hx
    obtain ⟨n, rfl⟩ : ∃ n : Nat, y = (n : Int) := ⟨y.toNat, by omega⟩
    refine QI.ans R 0 (sumN (lwF h x n) 199) ?_ ?_
    · rw [c_T_laws]
      refine cI_of (t_lawStatus x _) ?_
      refine if_y (q) ?_
      exact t_lawsLoop hx (by omega) ok _ 20 1 (by omega) (by omega) (mC 0)
    · rw [c_M_laws]
      refine cI_of (m_wrongLaw T (up_row (by omega)) (up_row (by omega)) x _) ?_
      refine if_n (by omega) ?_
      exact m_lawsLoop hx (by omega) (fun j h1 h2 => by rw [up_row (by omega), (t5 j h1 (by omega)).1]) ok _
  · refine QI.ans R (lwS h x y) (-1) ?_ ?_
    · rw [c_T_laws]
      refine cI_of (t_lawStatus x _) ?_
      refine if_n (q) ?_
      refine cI_of (c_T_refuse xs d _ _) ?_
      rfl
    · rw [c_M_laws]
      refine cI_of (m_wrongLaw T (up_row (by omega)) (up_row (by omega)) x _) ?_
      refine if_y (by omega) ?_
      refine cI_of (c_M_refuse xs d _ _) ?_
      rfl
end
section
variable {xs : List Int} {d : Nat} {h : mM}
/-- the first law from one on -/
def fstL (h : mM) (x : Int) (n : Nat) : Nat → Nat → Option Nat
  | 0, _ => none
  | m + 1, k => if lwP h x n (k + 11) then some k else fstL h x n m (k + 1)
def rvL (x3 : Int) : Option Nat → Int
  | none => -1
  | some k => if x3 = 0 then ((k + 11 : Nat) : Int) / 10 else ((k + 11 : Nat) : Int) % 10
def rsL : Option Nat → Int
  | none => 6
  | some _ => 0
theorem t_lawOfLoop {x : Int} (hx : 0 ≤ x ∧ x < 4) {n : Nat} (hn : n ≤ 15) (ok : ∀ i : Nat, i < n → okL h x i) (x3 x4 : Int) : ∀ (m heat : Nat), heat + m = 21 → 1 ≤ heat → ∀ x6 : mv, X xs d k_T_lawOf 20 [mR 0, mI x, mI (n : Int), mI x3, mI x4, mI (heat : Int), x6] [] h = some ([mI (rvL x3 (fstL h x n (209 - 10 * heat) (10 * heat - 10)))], upM h 0 0 (rsL (fstL h x n (209 - 10 * heat) (10 * heat - 10)))) := by
  intro m
  induction m with
  | zero =>
    intro heat hm h1 x6
    obtain rfl : heat = 21 := by omega
    rw [e_T_lawOf_20, mostR.1]
    refine if_y (by omega) ?_
    refine cI_of (c_T_refuse xs d _ _) ?_
    rfl
  | succ m ih =>
    intro heat hm h1 x6
    have row : ∀ (r reach : Nat), reach + r = 10 → 1 ≤ reach → X xs d k_T_lawOf 27 [mR 0, mI x, mI (n : Int), mI x3, mI x4, mI (heat : Int), mI (reach : Int)] [] h = some ([mI (rvL x3 (fstL h x n (210 - 10 * heat - reach) (10 * heat + reach - 11)))], upM h 0 0 (rsL (fstL h x n (210 - 10 * heat - reach) (10 * heat + reach - 11)))) := by
      intro r
      induction r with
      | zero =>
        intro reach hr h3
        obtain rfl : reach = 10 := by omega
        have nx := ih (heat + 1) (by omega) (by omega) (mI 10)
        rw [e_T_lawOf_27, mostR.2]
        refine if_y (by omega) ?_
        refine if_y (by omega) ?_
        by_cases z : heat = 20
        · subst z
          exact nx
        · have e1 : 210 - 10 * heat - 10 = (209 - 10 * (heat + 1)) + 1 := by omega
          have e2 : 10 * (heat + 1) - 10 = 10 * heat + 10 - 11 + 1 := by omega
          rw [e1, fstL, if_neg (by intro z; have := z.1; omega), ← e2]
          exact nx
      | succ r ihr =>
        intro reach hr h3
        have nx := ihr (reach + 1) (by omega) (by omega)
        have e10 : ((10 * heat + reach - 11 + 11 : Nat) : Int) = 10 * (heat : Int) + (reach : Int) := by omega
        have ed : (10 * (heat : Int) + (reach : Int)) / 10 = heat := by omega
        have em : (10 * (heat : Int) + (reach : Int)) % 10 = reach := by omega
        have e1 : 210 - 10 * heat - reach = (210 - 10 * heat - (reach + 1)) + 1 := by omega
        have e2 : 10 * heat + (reach + 1) - 11 = 10 * heat + reach - 11 + 1 := by omega
        rw [e2] at nx
        rw [e1, fstL, e_T_lawOf_27, mostR.2]
        refine if_n (by omega) ?_
        refine cI_of (t_isLaw hx hn ok (by omega) (by omega)) ?_
        by_cases q : lawP h x n (heat : Int) (reach : Int)
        · refine if_n ((fun z => b2i_0.mp z q)) ?_
          have f1 : lwP h x n (10 * heat + reach - 11 + 11) := by
            unfold lwP
            rw [e10, ed, em]
            exact ⟨by omega, q⟩
          rw [if_pos f1]
          unfold rvL rsL
          simp only
          rw [e10, ed, em]
          by_cases z : x3 = 0
          · rw [if_pos z, if_pos z]
            refine cI_of (c_T_answer xs d _ _) ?_
            rfl
          · rw [if_neg z, if_neg z]
            refine cI_of (c_T_answer xs d _ _) ?_
            rfl
        · refine if_y (b2i_0.mpr q) ?_
          refine if_y (by omega) ?_
          have f1 : ¬ lwP h x n (10 * heat + reach - 11 + 11) := by
            unfold lwP
            rw [e10, ed, em]
            exact fun z => q z.2
          rw [if_neg f1]
          exact nx
    rw [e_T_lawOf_20, mostR.1]
    refine if_n (by omega) ?_
    have r := row 9 1 (by omega) (by omega)
    rw [show 10 * heat + 1 - 11 = 10 * heat - 10 by omega, show 210 - 10 * heat - 1 = 209 - 10 * heat by omega] at r
    exact r
theorem m_lawOfLoop {g : mM} {x : Int} (hx : 0 ≤ x ∧ x < 4) {n : Nat} (hn : n ≤ 15) (src : ∀ j, 0 ≤ j → j < 3 * (n : Int) → g 135 (60 * x + j) = h (3 + x.toNat) j) (ok : ∀ i : Nat, i < n → okL h x i) (x3 x4 : Int) : ∀ (m k : Nat), k + m = 199 → X xs d k_M_lawOf 20 [mR 130, mI x, mI (n : Int), mI x3, mI x4, mI ((k + 11 : Nat) : Int)] [] g = some ([mI (rvL x3 (fstL h x n m k))], upM g 130 2 (rsL (fstL h x n m k))) := by
  intro m
  induction m with
  | zero =>
    intro k hk
    rw [e_M_lawOf_20]
    refine if_n (by omega) ?_
    refine cI_of (c_M_refuse xs d _ _) ?_
    rfl
  | succ m ih =>
    intro k hk
    have nx := ih (k + 1) (by omega)
    have e45 : X xs d k_M_lawOf 45 [mR 130, mI x, mI (n : Int), mI x3, mI x4, mI ((k + 11 : Nat) : Int)] [] g = X xs d k_M_lawOf 20 [mR 130, mI x, mI (n : Int), mI x3, mI x4, mI ((k + 1 + 11 : Nat) : Int)] [] g := by
      rw [e_M_lawOf_45]
      refine if_y (by omega) ?_
      rw [show ((k + 1 + 11 : Nat) : Int) = ((k + 11 : Nat) : Int) + 1 by omega]
    rw [fstL, e_M_lawOf_20]
    refine if_y (by omega) ?_
    refine if_y (by omega) ?_
    by_cases q : 0 < ((k + 11 : Nat) : Int) % 10
    · rw [if_pos q]
      refine cI_of (m_isLaw hx hn src ok (by omega) q) ?_
      by_cases z : lawP h x n (((k + 11 : Nat) : Int) / 10) (((k + 11 : Nat) : Int) % 10)
      · refine if_n ((fun y => b2i_0.mp y z)) ?_
        rw [if_pos (show lwP h x n (k + 11) from ⟨q, z⟩)]
        unfold rvL rsL
        simp only
        by_cases y : x3 = 0
        · rw [if_pos y, if_pos y]
          refine if_y (by omega) ?_
          refine cI_of (c_M_gives xs d _ _) ?_
          rfl
        · rw [if_neg y, if_neg y]
          refine if_y (by omega) ?_
          refine cI_of (c_M_gives xs d _ _) ?_
          rfl
      · refine if_y (b2i_0.mpr z) ?_
        rw [if_neg (show ¬ lwP h x n (k + 11) from fun y => z y.2)]
        exact e45.trans nx
    · rw [if_neg q, if_neg (show ¬ lwP h x n (k + 11) from fun y => q y.1)]
      exact e45.trans nx
theorem q_lawOf (R : Rel h) (x y z : Int) : QI xs d h 52 197 [mI x, mI y, mI z] := by
  have T := R.tp
  have ps := lwS_pos (h := h) x y
  by_cases q0 : 0 ≤ z ∧ z ≤ 1
  rotate_left
  · refine QI.ans R 1 (-1) ?_ ?_
    · rw [c_T_lawOf]
      refine cI_of (t_within) ?_
      refine if_y (b2i_0.mpr q0) ?_
      rw [e_T_lawOf_11]
      refine if_n (by omega) ?_
      refine cI_of (c_T_refuse xs d _ _) ?_
      rfl
    · have m5 : X xs d k_M_lawOf 5 [mR 130, mI x, mI y, mI z, mC 0, mC 0] [] (upM h 0 0 1) = some ([mI (-1)], upM (upM h 0 0 1) 130 2 1) := by
        rw [e_M_lawOf_5, e_M_lawOf_11]
        refine if_y (by omega) ?_
        refine cI_of (c_M_refuse xs d _ _) ?_
        rfl
      rw [c_M_lawOf]
      by_cases z1 : z < 0
      · rw [if_pos z1]
        exact m5
      · rw [if_neg z1, if_pos (by omega)]
        exact m5
  by_cases q : lwS h x y = 0
  · obtain ⟨hx, hn, h8, hl, ok⟩ := lwS_ok q
    obtain ⟨t1, t2, t3, t4, t5⟩ := T.at' hx
    obtain ⟨n, rfl⟩ : ∃ n : Nat, y = (n : Int) := ⟨y.toNat, by omega⟩
    refine QI.ans R (rsL (fstL h x n 199 0)) (rvL z (fstL h x n 199 0)) ?_ ?_
    · rw [c_T_lawOf]
      refine cI_of (t_within) ?_
      refine if_n ((fun z => b2i_0.mp z q0)) ?_
      refine cI_of (t_lawStatus x _) ?_
      rw [e_T_lawOf_11]
      refine if_y (q) ?_
      exact t_lawOfLoop hx (by omega) ok _ _ 20 1 (by omega) (by omega) (mC 0)
    · rw [c_M_lawOf]
      refine if_n (by omega) ?_
      refine if_n (by omega) ?_
      refine cI_of (m_wrongLaw T (up_row (by omega)) (up_row (by omega)) x _) ?_
      rw [e_M_lawOf_11]
      refine if_n (by omega) ?_
      exact m_lawOfLoop hx (by omega) (fun j h1 h2 => by rw [up_row (by omega), (t5 j h1 (by omega)).1]) ok _ _ 199 0 (by omega)
  · refine QI.ans R (lwS h x y) (-1) ?_ ?_
    · rw [c_T_lawOf]
      refine cI_of (t_within) ?_
      refine if_n ((fun z => b2i_0.mp z q0)) ?_
      refine cI_of (t_lawStatus x _) ?_
      rw [e_T_lawOf_11]
      refine if_n (q) ?_
      refine cI_of (c_T_refuse xs d _ _) ?_
      rfl
    · rw [c_M_lawOf]
      refine if_n (by omega) ?_
      refine if_n (by omega) ?_
      refine cI_of (m_wrongLaw T (up_row (by omega)) (up_row (by omega)) x _) ?_
      rw [e_M_lawOf_11]
      refine if_y (by omega) ?_
      refine cI_of (c_M_refuse xs d _ _) ?_
      rfl
end
