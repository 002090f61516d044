/-! EQUIV 5: simple calls -/
section
variable {xs : List Int} {d : Nat} {c : Kc} {h : mM}
theorem t_within {x a b : Int} : C xs d 74 0 [mI x, mI a, mI b] h = some ([mI (b2i (a ≤ x ∧ x ≤ b))], h) := by
  rw [c_T_within]
  by_cases q : x < a
  · rw [if_pos q, b2i_n (by omega)]
  · by_cases q2 : b < x
    · rw [if_neg q, if_pos q2, b2i_n (by omega)]
    · rw [if_neg q, if_neg q2, b2i_y (by omega)]
theorem m_isFrom {x a b : Int} : C xs d 92 0 [mL x, mL a, mL b] h = some ([mI (b2i (a ≤ x ∧ x ≤ b))], h) := by
  rw [c_M_isFrom]
  by_cases q : x < a
  · rw [if_pos q, b2i_n (by omega)]
  · by_cases q2 : b < x
    · rw [if_neg q, if_pos q2, b2i_n (by omega)]
    · rw [if_neg q, if_neg q2, b2i_y (by omega)]
theorem m_isPerson (k : CoM c h) (x : Int) : C xs d 126 0 [mR 130, mI x] h = some ([mI (b2i (0 ≤ x ∧ x < c 0 0))], h) := by
  rw [c_M_isPerson, k.n]
  by_cases q : x < 0
  · rw [if_pos q, b2i_n (by omega)]
  · by_cases q2 : x < c 0 0
    · rw [if_neg q, if_pos q2, b2i_y (by omega)]
    · rw [if_neg q, if_neg q2, b2i_n (by omega)]
theorem t_has12 (k : CoT 12 c h) (x : Int) : C xs d 228 0 [mR 12, mI x] h = some ([mI (b2i (0 ≤ x ∧ x < c 0 0))], h) := by
  rw [t_has (by omega), show h 12 0 = c 0 0 from k.n]
theorem t_isCouple (k : CoT 12 c h) (x y : Int) : C xs d 73 0 [mR 0, mI x, mI y] h = some ([mI (b2i ((0 ≤ x ∧ x < c 0 0) ∧ (0 ≤ y ∧ y < c 0 0) ∧ x ≠ y))], h) := by
  rw [c_T_isCouple]
  refine cI_of (t_has12 k x) ?_
  by_cases q : 0 ≤ x ∧ x < c 0 0
  · rw [if_neg (fun z => b2i_0.mp z q)]
    refine cI_of (t_has12 k y) ?_
    by_cases q2 : 0 ≤ y ∧ y < c 0 0
    · rw [if_neg (fun z => b2i_0.mp z q2)]
      by_cases q3 : x = y
      · rw [if_pos q3, b2i_n (fun z => z.2.2 q3)]
      · rw [if_neg q3, b2i_y ⟨q, q2, q3⟩]
    · rw [if_pos (b2i_0.mpr q2), b2i_n (fun z => q2 z.2.1)]
  · rw [if_pos (b2i_0.mpr q), b2i_n (fun z => q z.1)]
theorem m_areTwo (k : CoM c h) (x y : Int) : C xs d 127 0 [mR 130, mI x, mI y] h = some ([mI (b2i ((0 ≤ x ∧ x < c 0 0) ∧ (0 ≤ y ∧ y < c 0 0) ∧ x ≠ y))], h) := by
  rw [c_M_areTwo]
  refine cI_of (m_isPerson k x) ?_
  by_cases q : 0 ≤ x ∧ x < c 0 0
  · rw [if_neg (fun z => b2i_0.mp z q)]
    refine cI_of (m_isPerson k y) ?_
    by_cases q2 : 0 ≤ y ∧ y < c 0 0
    · rw [if_neg (fun z => b2i_0.mp z q2)]
      by_cases q3 : x = y
      · rw [if_pos q3, b2i_n (fun z => z.2.2 q3)]
      · rw [if_neg q3, b2i_y ⟨q, q2, q3⟩]
    · rw [if_pos (b2i_0.mpr q2), b2i_n (fun z => q2 z.2.1)]
  · rw [if_pos (b2i_0.mpr q), b2i_n (fun z => q z.1)]
theorem CoT.z0 {b : Nat} (hb : 1 ≤ b) (k : CoT b c h) (s : Int) : CoT b c (upM h 0 0 s) := k.mv (fun a h1 h2 => up_row (by omega))
theorem CoT.z1 {b : Nat} (hb : b + 6 < 130) (k : CoT b c h) (i s : Int) : CoT b c (upM h 130 i s) := k.mv (fun a h1 h2 => up_row (by omega))
theorem CoM.z0 (k : CoM c h) (s : Int) : CoM c (upM h 0 0 s) := k.mv (up_row (by omega))
theorem CoM.z1 (k : CoM c h) (i s : Int) : CoM c (upM h 130 i s) := k.mv (up_row (by omega))
theorem Rel.co (R : Rel h) : ∃ c, SlotR 12 30 c h 0 0 := R.2.2.2.2.2.1
/-- a call that only answers -/
theorem QI.ans {iT iM : Nat} {a : List mv} (R : Rel h) (s v : Int) (hT : C xs d iT 0 (mR 0 :: a) h = some ([mI v], upM h 0 0 s)) (hM : C xs d iM 0 (mR 130 :: a) (upM h 0 0 s) = some ([mI v], upM (upM h 0 0 s) 130 2 s)) : QI xs d h iT iM a := ⟨v, _, _, hT, hM, R.st s⟩
theorem QI.mkU {iT iM : Nat} {a : List mv} {c' : Kc} (R : Rel h) (k0 : SlotR 12 30 c h 0 0) (v s : Int) {g1 g2 : mM} (hT : C xs d iT 0 (mR 0 :: a) h = some ([mI v], upM g1 0 0 s)) (k1 : CoT 12 c' g1) (o1 : Keep h g1) (hM : C xs d iM 0 (mR 130 :: a) (upM g1 0 0 s) = some ([mI v], upM g2 130 2 s)) (k2 : CoM c' g2) (o2 : Keep (upM g1 0 0 s) g2) (o3 : ∀ a, 12 ≤ a → a ≤ 18 → g2 a = g1 a) (o4 : g2 0 = upM g1 0 0 s 0) (w' : WfC c') (g' : c' 1 0 ≤ 9999) (n' : c' 0 0 = c 0 0) : QI xs d h iT iM a := by
  refine ⟨v, _, _, hT, hM, R.upd k0 (c' := c') (CoT.mv (h := g1) k1 (fun a h1 h2 => ?_)) (k2.z1 _ _) w' g' n' (((o1.up0 s).tr o2).upM2 2 s (by omega)) ?_⟩
  · rw [up_row (by omega), o3 a h1 h2]
  · rw [up_ne (by omega), o4, up_eq, up_eq]
end
section
variable {xs : List Int} {d : Nat} {h : mM}
theorem q_status (R : Rel h) : QI xs d h 2 78 [] := by
  refine ⟨h 0 0, h, h, ?_, ?_, R⟩
  · rw [c_T_status]
  · rw [c_M_status, R.1]
theorem q_top (R : Rel h) : QL xs d h 3 79 [] := by
  refine ⟨h 0 1, h, h, ?_, ?_, R⟩
  · rw [c_T_top]
  · rw [c_M_top, R.2.1.1]
theorem q_bottom (R : Rel h) : QL xs d h 4 80 [] := by
  refine ⟨h 0 2, h, h, ?_, ?_, R⟩
  · rw [c_T_bottom]
  · rw [c_M_bottom, R.2.1.2]

theorem q_far (R : Rel h) (x y : Int) : QI xs d h 17 141 [mI x, mI y] := by
  obtain ⟨c, k⟩ := R.co
  have kT := k.1
  have kM := CoM.z.mp k.2.1
  have w := k.2.2.1
  have hn := w.1
  by_cases q : 0 ≤ x ∧ x < c 0 0
  · by_cases q2 : 0 ≤ y ∧ y < c 0 0
    · refine QI.ans R 0 (farI (c 3 x) (c 3 y)) ?_ ?_
      · rw [c_T_far]
        refine cI_of (t_has12 kT x) ?_
        rw [if_neg (fun z => b2i_0.mp z q)]
        refine cI_of (t_has12 kT y) ?_
        rw [if_neg (fun z => b2i_0.mp z q2)]
        refine cI_of (t_apart (by omega) kT w q q2) ?_
        refine cI_of (c_T_answer xs d _ h) ?_
        rfl
      · rw [c_M_far]
        refine cI_of (m_isPerson (kM.z0 0) x) ?_
        rw [if_neg (fun z => b2i_0.mp z q)]
        refine cI_of (m_isPerson (kM.z0 0) y) ?_
        rw [if_neg (fun z => b2i_0.mp z q2)]
        refine cI_of (m_farBetween (kM.z0 0) w q q2) ?_
        refine cI_of (c_M_gives xs d _ _) ?_
        rfl
    · refine QI.ans R 1 (-1) ?_ ?_
      · rw [c_T_far]
        refine cI_of (t_has12 kT x) ?_
        rw [if_neg (fun z => b2i_0.mp z q)]
        refine cI_of (t_has12 kT y) ?_
        rw [if_pos (b2i_0.mpr q2)]
        refine cI_of (c_T_refuse xs d _ h) ?_
        rfl
      · rw [c_M_far]
        refine cI_of (m_isPerson (kM.z0 1) x) ?_
        rw [if_neg (fun z => b2i_0.mp z q)]
        refine cI_of (m_isPerson (kM.z0 1) y) ?_
        rw [if_pos (b2i_0.mpr q2)]
        refine cI_of (c_M_refuse xs d _ _) ?_
        rfl
  · refine QI.ans R 1 (-1) ?_ ?_
    · rw [c_T_far]
      refine cI_of (t_has12 kT x) ?_
      rw [if_pos (b2i_0.mpr q)]
      refine cI_of (c_T_refuse xs d _ h) ?_
      rfl
    · rw [c_M_far]
      refine cI_of (m_isPerson (kM.z0 1) x) ?_
      rw [if_pos (b2i_0.mpr q)]
      refine cI_of (c_M_refuse xs d _ _) ?_
      rfl
theorem m_cooled {c : Kc} (k : CoM c h) (w : WfC c) {p n : Int} (hp : 0 ≤ p ∧ p < c 0 0) (h1 : 0 ≤ n ∧ n ≤ 1000) : C xs d 161 0 [mR 130, mI p, mI n] h = some ([mI (max 0 (c 5 p - n * c 2 4))], h) := by
  have hn := w.1
  have a3 := (w.2.2.2.2.2.2.2.2 p hp.1 hp.2).2.2.1
  have mb := mul_bd h1.1 h1.2 w.2.2.2.2.2.1.1 w.2.2.2.2.2.1.2
  rw [c_M_cooled]
  refine cI_of (m_personOf (by omega) (by omega)) ?_
  rw [k.w p hp.1 hp.2, k.r 4 (by omega) (by omega)]
  refine if_y (by omega) ?_
  refine if_y (by omega) ?_
  rfl
theorem q_warmIn (R : Rel h) (x y : Int) : QI xs d h 27 162 [mI x, mI y] := by
  obtain ⟨c, k⟩ := R.co
  have kT := k.1
  have kM := CoM.z.mp k.2.1
  have w := k.2.2.1
  have hn := w.1
  by_cases q : 0 ≤ x ∧ x < c 0 0
  · by_cases q2 : 0 ≤ y ∧ y ≤ 60
    · refine QI.ans R 0 (max 0 (c 5 x - y * c 2 4)) ?_ ?_
      · rw [c_T_warmIn]
        refine cI_of (t_has12 kT x) ?_
        rw [if_neg (fun z => b2i_0.mp z q)]
        refine cI_of (t_within) ?_
        rw [if_neg (fun z => b2i_0.mp z q2)]
        refine cI_of (t_warmthIn (by omega) kT w q (by omega)) ?_
        refine cI_of (c_T_answer xs d _ h) ?_
        rfl
      · rw [c_M_warmIn]
        refine cI_of (m_isPerson (kM.z0 0) x) ?_
        rw [if_neg (fun z => b2i_0.mp z q)]
        refine cI_of (m_isFrom) ?_
        rw [if_neg (fun z => b2i_0.mp z q2)]
        refine cI_of (m_cooled (kM.z0 0) w q (by omega)) ?_
        refine cI_of (c_M_gives xs d _ _) ?_
        rfl
    · refine QI.ans R 1 (-1) ?_ ?_
      · rw [c_T_warmIn]
        refine cI_of (t_has12 kT x) ?_
        rw [if_neg (fun z => b2i_0.mp z q)]
        refine cI_of (t_within) ?_
        rw [if_pos (b2i_0.mpr q2)]
        refine cI_of (c_T_refuse xs d _ h) ?_
        rfl
      · rw [c_M_warmIn]
        refine cI_of (m_isPerson (kM.z0 1) x) ?_
        rw [if_neg (fun z => b2i_0.mp z q)]
        refine cI_of (m_isFrom) ?_
        rw [if_pos (b2i_0.mpr q2)]
        refine cI_of (c_M_refuse xs d _ _) ?_
        rfl
  · refine QI.ans R 1 (-1) ?_ ?_
    · rw [c_T_warmIn]
      refine cI_of (t_has12 kT x) ?_
      rw [if_pos (b2i_0.mpr q)]
      refine cI_of (c_T_refuse xs d _ h) ?_
      rfl
    · rw [c_M_warmIn]
      refine cI_of (m_isPerson (kM.z0 1) x) ?_
      rw [if_pos (b2i_0.mpr q)]
      refine cI_of (c_M_refuse xs d _ _) ?_
      rfl

theorem q_darkIn (R : Rel h) (x : Int) : QI xs d h 28 163 [mI x] := by
  obtain ⟨c, k⟩ := R.co
  have kT := k.1
  have kM := CoM.z.mp k.2.1
  have w := k.2.2.1
  have hn := w.1
  by_cases q : 0 ≤ x ∧ x < c 0 0
  · have key : ∀ (m : Nat) (i : Int), 0 ≤ i → i + m = 100 → ∃ s v, X xs d k_T_darkIn 11 [mR 0, mI x, mI i] [] h = some ([mI v], upM h 0 0 s) ∧ X xs d k_M_darkIn 10 [mR 130, mI x, mI i] [] (upM h 0 0 s) = some ([mI v], upM (upM h 0 0 s) 130 2 s) := by
      intro m
      induction m with
      | zero =>
        intro i h0 hi
        refine ⟨6, -1, ?_, ?_⟩
        · rw [e_T_darkIn_11, if_pos (by omega)]
          refine cI_of (c_T_refuse xs d _ h) ?_
          rfl
        · rw [e_M_darkIn_10, if_pos (by omega)]
          refine cI_of (c_M_refuse xs d _ _) ?_
          rfl
      | succ m ih =>
        intro i h0 hi
        by_cases q2 : max 0 (c 5 x - i * c 2 4) < c 2 3
        · refine ⟨0, i, ?_, ?_⟩
          · rw [e_T_darkIn_11, if_neg (by omega)]
            refine cI_of (t_warmthIn (by omega) kT w q (by omega)) ?_
            rw [show h 13 3 = c 2 3 from kT.r 3 (by omega) (by omega), if_pos q2]
            refine cI_of (c_T_answer xs d _ h) ?_
            rfl
          · rw [e_M_darkIn_10, if_neg (by omega)]
            refine cI_of (m_cooled (kM.z0 0) w q (by omega)) ?_
            rw [(kM.z0 0).r 3 (by omega) (by omega), if_pos q2]
            refine cI_of (c_M_gives xs d _ _) ?_
            rfl
        · obtain ⟨s, v, r1, r2⟩ := ih (i + 1) (by omega) (by omega)
          refine ⟨s, v, ?_, ?_⟩
          · rw [e_T_darkIn_11, if_neg (by omega)]
            refine cI_of (t_warmthIn (by omega) kT w q (by omega)) ?_
            rw [show h 13 3 = c 2 3 from kT.r 3 (by omega) (by omega), if_neg q2]
            refine if_y (by omega) ?_
            exact r1
          · rw [e_M_darkIn_10, if_neg (by omega)]
            refine cI_of (m_cooled (kM.z0 s) w q (by omega)) ?_
            rw [(kM.z0 s).r 3 (by omega) (by omega), if_neg q2]
            refine if_y (by omega) ?_
            exact r2
    obtain ⟨s, v, r1, r2⟩ := key 100 0 (by omega) (by omega)
    refine QI.ans R s v ?_ ?_
    · rw [c_T_darkIn]
      refine cI_of (t_has12 kT x) ?_
      rw [if_neg (fun z => b2i_0.mp z q)]
      exact r1
    · rw [c_M_darkIn]
      refine cI_of (m_isPerson (kM.z0 s) x) ?_
      rw [if_neg (fun z => b2i_0.mp z q)]
      exact r2
  · refine QI.ans R 1 (-1) ?_ ?_
    · rw [c_T_darkIn]
      refine cI_of (t_has12 kT x) ?_
      rw [if_pos (b2i_0.mpr q)]
      refine cI_of (c_T_refuse xs d _ h) ?_
      rfl
    · rw [c_M_darkIn]
      refine cI_of (m_isPerson (kM.z0 1) x) ?_
      rw [if_pos (b2i_0.mpr q)]
      refine cI_of (c_M_refuse xs d _ _) ?_
      rfl

theorem q_told (R : Rel h) (x : Int) : QI xs d h 15 139 [mI x] := by
  obtain ⟨c, k⟩ := R.co
  have kT := k.1
  have kM := CoM.z.mp k.2.1
  have w := k.2.2.1
  have hn := w.1
  by_cases q0 : x < 0 ∨ 11 < x
  · refine QI.ans R 1 (-1) ?_ ?_
    · rw [c_T_told, e_T_told_14]
      by_cases q : x < 0
      · rw [if_pos (by omega)]
        refine if_n (by omega) ?_
        refine if_n (by omega) ?_
        refine if_n (by omega) ?_
        refine if_n (by omega) ?_
        refine if_n (by omega) ?_
        refine if_n (by omega) ?_
        refine if_n (by omega) ?_
        refine if_n (by omega) ?_
        refine if_n (by omega) ?_
        refine if_n (by omega) ?_
        refine if_n (by omega) ?_
        refine if_n (by omega) ?_
        refine cI_of (c_T_refuse xs d _ h) ?_
        rfl
      · rw [if_neg (by omega), if_pos (by omega)]
        refine if_n (by omega) ?_
        refine if_n (by omega) ?_
        refine if_n (by omega) ?_
        refine if_n (by omega) ?_
        refine if_n (by omega) ?_
        refine if_n (by omega) ?_
        refine if_n (by omega) ?_
        refine if_n (by omega) ?_
        refine if_n (by omega) ?_
        refine if_n (by omega) ?_
        refine if_n (by omega) ?_
        refine if_n (by omega) ?_
        refine cI_of (c_T_refuse xs d _ h) ?_
        rfl
    · rw [c_M_told]
      by_cases q : x < 0
      · rw [if_pos q]
        refine cI_of (c_M_refuse xs d _ _) ?_
        rfl
      · rw [if_neg q, if_pos (by omega)]
        refine cI_of (c_M_refuse xs d _ _) ?_
        rfl
  by_cases q1 : 1 ≤ x ∧ x ≤ 6
  · refine QI.ans R 0 (c 2 x) ?_ ?_
    · rw [c_T_told, if_neg (by omega), if_neg (by omega), show h 13 x = c 2 x from kT.r x (by omega) (by omega)]
      refine if_y (by omega) ?_
      refine cI_of (c_T_answer xs d _ h) ?_
      rfl
    · rw [c_M_told, if_neg (by omega), if_neg (by omega), if_pos (by omega), (kM.z0 0).r x (by omega) (by omega)]
      refine if_y (by omega) ?_
      refine cI_of (c_M_gives xs d _ _) ?_
      rfl
  by_cases q20 : x = 0
  · subst q20
    refine QI.ans R 0 (c 0 0) ?_ ?_
    · rw [c_T_told, e_T_told_14]
      rw [if_pos (by omega)]

      refine if_y (by omega) ?_
      rw [show h 12 0 = c 0 0 from kT.n]
      refine cI_of (c_T_answer xs d _ h) ?_
      rfl
    · rw [c_M_told, if_neg (by omega), if_neg (by omega), if_pos (by omega)]
      refine if_y (by omega) ?_
      rw [(kM.z0 0).n]
      refine cI_of (c_M_gives xs d _ _) ?_
      rfl
  by_cases q27 : x = 7
  · subst q27
    refine QI.ans R 0 (c 1 0) ?_ ?_
    · rw [c_T_told, e_T_told_14]
      rw [if_neg (by omega), if_pos (by omega)]
      refine if_n (by omega) ?_
      refine if_n (by omega) ?_
      refine if_n (by omega) ?_
      refine if_n (by omega) ?_
      refine if_n (by omega) ?_
      refine if_n (by omega) ?_
      refine if_n (by omega) ?_
      refine if_y (by omega) ?_
      rw [show h 12 1 = c 1 0 from kT.g]
      refine cI_of (c_T_answer xs d _ h) ?_
      rfl
    · rw [c_M_told, if_neg (by omega), if_neg (by omega), if_pos (by omega)]
      refine if_y (by omega) ?_
      rw [(kM.z0 0).g]
      refine cI_of (c_M_gives xs d _ _) ?_
      rfl
  by_cases q28 : x = 8
  · subst q28
    refine QI.ans R 0 (((sq (litB c) (c 0 0).toNat : Nat) : Int)) ?_ ?_
    · rw [c_T_told, e_T_told_14]
      rw [if_neg (by omega), if_pos (by omega)]
      refine if_n (by omega) ?_
      refine if_n (by omega) ?_
      refine if_n (by omega) ?_
      refine if_n (by omega) ?_
      refine if_n (by omega) ?_
      refine if_n (by omega) ?_
      refine if_n (by omega) ?_
      refine if_n (by omega) ?_
      refine if_y (by omega) ?_
      refine cI_of (t_litSet (by omega) kT w) ?_
      refine cI_of (c_T_answer xs d _ h) ?_
      rfl
    · rw [c_M_told, if_neg (by omega), if_neg (by omega), if_neg (by omega)]

      refine if_y (by omega) ?_
      refine cI_of (m_areLit (kM.z0 0) w) ?_
      refine cI_of (c_M_gives xs d _ _) ?_
      rfl
  by_cases q29 : x = 9
  · subst q29
    refine QI.ans R 0 (((sq (whoB c) (c 0 0).toNat : Nat) : Int)) ?_ ?_
    · rw [c_T_told, e_T_told_14]
      rw [if_neg (by omega), if_pos (by omega)]
      refine if_n (by omega) ?_
      refine if_n (by omega) ?_
      refine if_n (by omega) ?_
      refine if_n (by omega) ?_
      refine if_n (by omega) ?_
      refine if_n (by omega) ?_
      refine if_n (by omega) ?_
      refine if_n (by omega) ?_
      refine if_n (by omega) ?_
      refine if_y (by omega) ?_
      refine cI_of (t_toastingSet kT w) ?_
      refine cI_of (c_T_answer xs d _ h) ?_
      rfl
    · rw [c_M_told, if_neg (by omega), if_neg (by omega), if_neg (by omega)]
      refine if_n (by omega) ?_
      refine if_y (by omega) ?_
      refine cI_of (m_haveWhom (kM.z0 0) w) ?_
      refine cI_of (c_M_gives xs d _ _) ?_
      rfl
  by_cases q30 : x = 10
  · subst q30
    refine QI.ans R 0 (sumN (fun p => c 5 (p : Int)) (c 0 0).toNat) ?_ ?_
    · rw [c_T_told, e_T_told_14]
      rw [if_neg (by omega), if_pos (by omega)]
      refine if_n (by omega) ?_
      refine if_n (by omega) ?_
      refine if_n (by omega) ?_
      refine if_n (by omega) ?_
      refine if_n (by omega) ?_
      refine if_n (by omega) ?_
      refine if_n (by omega) ?_
      refine if_n (by omega) ?_
      refine if_n (by omega) ?_
      refine if_n (by omega) ?_
      refine if_y (by omega) ?_
      refine cI_of (t_allWarmth (by omega) kT w) ?_
      refine cI_of (c_T_answer xs d _ h) ?_
      rfl
    · rw [c_M_told, if_neg (by omega), if_neg (by omega), if_neg (by omega)]
      refine if_n (by omega) ?_
      refine if_n (by omega) ?_
      refine if_y (by omega) ?_
      refine cI_of (m_together (kM.z0 0) w (g := 5) (by omega)) ?_
      refine cI_of (c_M_gives xs d _ _) ?_
      rfl
  by_cases q31 : x = 11
  · subst q31
    refine QI.ans R 0 (sumN (fun p => c 6 (p : Int)) (c 0 0).toNat) ?_ ?_
    · rw [c_T_told, e_T_told_14]
      rw [if_neg (by omega), if_pos (by omega)]
      refine if_n (by omega) ?_
      refine if_n (by omega) ?_
      refine if_n (by omega) ?_
      refine if_n (by omega) ?_
      refine if_n (by omega) ?_
      refine if_n (by omega) ?_
      refine if_n (by omega) ?_
      refine if_n (by omega) ?_
      refine if_n (by omega) ?_
      refine if_n (by omega) ?_
      refine if_n (by omega) ?_
      refine if_y (by omega) ?_
      refine cI_of (t_allGlasses kT w) ?_
      refine cI_of (c_T_answer xs d _ h) ?_
      rfl
    · rw [c_M_told, if_neg (by omega), if_neg (by omega), if_neg (by omega)]
      refine if_n (by omega) ?_
      refine if_n (by omega) ?_
      refine if_n (by omega) ?_
      skip
      refine cI_of (m_together (kM.z0 0) w (g := 6) (by omega)) ?_
      refine cI_of (c_M_gives xs d _ _) ?_
      rfl
  omega

theorem q_person (R : Rel h) (x y : Int) : QI xs d h 16 140 [mI x, mI y] := by
  obtain ⟨c, k⟩ := R.co
  have kT := k.1
  have kM := CoM.z.mp k.2.1
  have w := k.2.2.1
  have hn := w.1
  by_cases q : 0 ≤ x ∧ x < c 0 0
  rotate_left
  · refine QI.ans R 1 (-1) ?_ ?_
    · rw [c_T_person]
      refine cI_of (t_has12 kT x) ?_
      rw [if_pos (b2i_0.mpr q)]
      refine cI_of (c_T_refuse xs d _ h) ?_
      rfl
    · rw [c_M_person]
      refine cI_of (m_isPerson (kM.z0 1) x) ?_
      rw [if_pos (b2i_0.mpr q)]
      refine cI_of (c_M_refuse xs d _ _) ?_
      rfl
  obtain ⟨a1, a2, a3, a4, a5⟩ := w.2.2.2.2.2.2.2.2 x q.1 q.2
  have hT : ∀ s v, (y ≠ 4 → y ≠ 5 → X xs d k_T_person 23 [mR 0, mI x, mI y, mC 0] [mI 0] h = some ([mI v], upM h 0 0 s)) → ((y = 4 ∨ y = 5) → X xs d k_T_person 23 [mR 0, mI x, mI y, mC 0] [mI 1] h = some ([mI v], upM h 0 0 s)) → 0 ≤ y → y ≤ 6 → C xs d 16 0 [mR 0, mI x, mI y] h = some ([mI v], upM h 0 0 s) := by
    intro s v g1 g2 y0 y6
    rw [c_T_person]
    refine cI_of (t_has12 kT x) ?_
    rw [if_neg (fun z => b2i_0.mp z q)]
    refine cI_of (t_within) ?_
    rw [if_neg (fun z => b2i_0.mp z ⟨y0, y6⟩)]
    by_cases q4 : y = 4
    · rw [if_pos q4, e_T_person_20]
      exact g2 (Or.inl q4)
    · rw [if_neg q4]
      by_cases q5 : y = 5
      · rw [if_pos q5, e_T_person_20]
        exact g2 (Or.inr q5)
      · rw [if_neg q5]
        exact g1 q4 q5
  have hM : ∀ s, C xs d 126 0 [mR 130, mI x] (upM h 0 0 s) = some ([mI (b2i (0 ≤ x ∧ x < c 0 0))], upM h 0 0 s) := fun s => m_isPerson (kM.z0 s) x
  by_cases qy : y < 0 ∨ 6 < y
  · refine QI.ans R 1 (-1) ?_ ?_
    · rw [c_T_person]
      refine cI_of (t_has12 kT x) ?_
      rw [if_neg (fun z => b2i_0.mp z q)]
      refine cI_of (t_within) ?_
      rw [if_pos (b2i_0.mpr (by omega))]
      refine cI_of (c_T_refuse xs d _ h) ?_
      rfl
    · rw [c_M_person]
      refine cI_of (hM 1) ?_
      rw [if_neg (fun z => b2i_0.mp z q)]
      by_cases q2 : y < 0
      · rw [if_pos q2]
        refine cI_of (c_M_refuse xs d _ _) ?_
        rfl
      · rw [if_neg q2, if_pos (by omega)]
        refine cI_of (c_M_refuse xs d _ _) ?_
        rfl
  by_cases qy0 : y = 0
  · subst qy0
    refine QI.ans R 0 (c 3 x) (hT 0 _ (fun _ _ => ?_) (by omega) (by omega) (by omega)) ?_
    · rw [e_T_person_23, if_pos rfl, e_T_person_35, show h 14 x = c 3 x from kT.p x q.1 q.2]

      refine if_y (by omega) ?_
      refine if_y (by omega) ?_
      refine cI_of (c_T_answer xs d _ h) ?_
      rfl
    · rw [c_M_person]
      refine cI_of (hM 0) ?_
      rw [if_neg (fun z => b2i_0.mp z q), if_neg (by omega), if_neg (by omega), if_pos (by omega)]
      refine cI_of (m_personOf (by omega) (by omega)) ?_
      rw [(kM.z0 0).p x q.1 q.2]
      refine cI_of (c_M_gives xs d _ _) ?_
      rfl
  by_cases qy1 : y = 1
  · subst qy1
    refine QI.ans R 0 (c 4 x) (hT 0 _ (fun _ _ => ?_) (by omega) (by omega) (by omega)) ?_
    · rw [e_T_person_23, if_pos rfl, e_T_person_35, show h 15 x = c 4 x from kT.m x q.1 q.2]
      refine if_n (by omega) ?_
      refine if_y (by omega) ?_
      refine if_y (by omega) ?_
      refine cI_of (c_T_answer xs d _ h) ?_
      rfl
    · rw [c_M_person]
      refine cI_of (hM 0) ?_
      rw [if_neg (fun z => b2i_0.mp z q), if_neg (by omega), if_neg (by omega), if_pos (by omega)]
      refine cI_of (m_personOf (by omega) (by omega)) ?_
      rw [(kM.z0 0).m x q.1 q.2]
      refine cI_of (c_M_gives xs d _ _) ?_
      rfl
  by_cases qy2 : y = 2
  · subst qy2
    refine QI.ans R 0 (c 5 x) (hT 0 _ (fun _ _ => ?_) (by omega) (by omega) (by omega)) ?_
    · rw [e_T_person_23, if_pos rfl, e_T_person_35, show h 16 x = c 5 x from kT.w x q.1 q.2]
      refine if_n (by omega) ?_
      refine if_n (by omega) ?_
      refine if_y (by omega) ?_
      refine if_y (by omega) ?_
      refine cI_of (c_T_answer xs d _ h) ?_
      rfl
    · rw [c_M_person]
      refine cI_of (hM 0) ?_
      rw [if_neg (fun z => b2i_0.mp z q), if_neg (by omega), if_neg (by omega), if_pos (by omega)]
      refine cI_of (m_personOf (by omega) (by omega)) ?_
      rw [(kM.z0 0).w x q.1 q.2]
      refine cI_of (c_M_gives xs d _ _) ?_
      rfl
  by_cases qy3 : y = 3
  · subst qy3
    refine QI.ans R 0 (c 6 x) (hT 0 _ (fun _ _ => ?_) (by omega) (by omega) (by omega)) ?_
    · rw [e_T_person_23, if_pos rfl, e_T_person_35, show h 17 x = c 6 x from kT.l x q.1 q.2]
      refine if_n (by omega) ?_
      refine if_n (by omega) ?_
      refine if_n (by omega) ?_
      refine if_y (by omega) ?_
      refine if_y (by omega) ?_
      refine cI_of (c_T_answer xs d _ h) ?_
      rfl
    · rw [c_M_person]
      refine cI_of (hM 0) ?_
      rw [if_neg (fun z => b2i_0.mp z q), if_neg (by omega), if_neg (by omega), if_pos (by omega)]
      refine cI_of (m_personOf (by omega) (by omega)) ?_
      rw [(kM.z0 0).l x q.1 q.2]
      refine cI_of (c_M_gives xs d _ _) ?_
      rfl
  by_cases qy6 : y = 6
  · subst qy6
    refine QI.ans R 0 ((sq (warB c x) (c 0 0).toNat : Nat) : Int) (hT 0 _ (fun _ _ => ?_) (by omega) (by omega) (by omega)) ?_
    · rw [e_T_person_23, if_pos rfl, e_T_person_35]
      refine if_n (by omega) ?_
      refine if_n (by omega) ?_
      refine if_n (by omega) ?_
      refine if_n (by omega) ?_
      refine if_n (by omega) ?_
      refine if_n (by omega) ?_
      refine cI_of (t_warmersOf kT w x) ?_
      refine cI_of (c_T_answer xs d _ h) ?_
      rfl
    · rw [c_M_person]
      refine cI_of (hM 0) ?_
      rw [if_neg (fun z => b2i_0.mp z q), if_neg (by omega), if_neg (by omega), if_neg (by omega), if_pos rfl]
      refine cI_of (m_warmersOf (kM.z0 0) w x) ?_
      refine cI_of (c_M_gives xs d _ _) ?_
      rfl
  by_cases qw : c 7 x = -1
  · refine QI.ans R 6 (-1) (hT 6 _ (by omega) (fun _ => ?_) (by omega) (by omega)) ?_
    · rw [e_T_person_23, if_neg (by omega)]
      refine cI_of (t_hasWhom kT w q) ?_
      rw [if_pos (b2i_0.mpr (fun z => z qw))]
      refine cI_of (c_T_refuse xs d _ h) ?_
      rfl
    · rw [c_M_person]
      refine cI_of (hM 6) ?_
      rw [if_neg (fun z => b2i_0.mp z q), if_neg (by omega), if_neg (by omega), if_neg (by omega), if_neg (by omega)]
      refine cI_of (m_whomOf (kM.z0 6) w q) ?_
      rw [if_pos qw]
      refine cI_of (c_M_refuse xs d _ _) ?_
      rfl
  by_cases qy4 : y = 4
  · subst qy4
    refine QI.ans R 0 (c 7 x) (hT 0 _ (by omega) (fun _ => ?_) (by omega) (by omega)) ?_
    · rw [e_T_person_23, if_neg (by omega)]
      refine cI_of (t_hasWhom kT w q) ?_
      rw [if_neg (fun z => b2i_0.mp z qw), e_T_person_35, show h 18 x = c 7 x from kT.q x q.1 q.2]
      refine if_n (by omega) ?_
      refine if_n (by omega) ?_
      refine if_n (by omega) ?_
      refine if_n (by omega) ?_
      refine if_y (by omega) ?_
      refine if_y (by omega) ?_
      refine cI_of (c_T_answer xs d _ h) ?_
      rfl
    · rw [c_M_person]
      refine cI_of (hM 0) ?_
      rw [if_neg (fun z => b2i_0.mp z q), if_neg (by omega), if_neg (by omega), if_neg (by omega), if_neg (by omega)]
      refine cI_of (m_whomOf (kM.z0 0) w q) ?_
      rw [if_neg qw, if_pos rfl]
      refine cI_of (m_whomOf (kM.z0 0) w q) ?_
      refine cI_of (c_M_gives xs d _ _) ?_
      rfl
  · obtain rfl : y = 5 := by omega
    refine QI.ans R 0 (warmI c x) (hT 0 _ (by omega) (fun _ => ?_) (by omega) (by omega)) ?_
    · rw [e_T_person_23, if_neg (by omega)]
      refine cI_of (t_hasWhom kT w q) ?_
      rw [if_neg (fun z => b2i_0.mp z qw), e_T_person_35]
      refine if_n (by omega) ?_
      refine if_n (by omega) ?_
      refine if_n (by omega) ?_
      refine if_n (by omega) ?_
      refine if_n (by omega) ?_
      refine if_y (by omega) ?_
      refine cI_of (t_warmOf (by omega) kT w q) ?_
      rw [if_neg qw]
      refine cI_of (c_T_answer xs d _ h) ?_
      rfl
    · rw [c_M_person]
      refine cI_of (hM 0) ?_
      rw [if_neg (fun z => b2i_0.mp z q), if_neg (by omega), if_neg (by omega), if_neg (by omega), if_neg (by omega)]
      refine cI_of (m_whomOf (kM.z0 0) w q) ?_
      rw [if_neg qw, if_neg (by omega)]
      refine cI_of (m_warmOf (kM.z0 0) w q qw) ?_
      refine cI_of (c_M_gives xs d _ _) ?_
      rfl
end
