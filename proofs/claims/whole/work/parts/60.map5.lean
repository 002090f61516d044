/-! EQUIV 30: the call map -/
section
variable {xs : List Int} {d : Nat} {h g : mM}
/-- the draft of the reference comes to its place -/
abbrev cpM (g : mM) : mM := rowU (rowU g 131 414 (fun k => g 131 (1656 + k))) 132 7 (fun k => g 132 (28 + k))
theorem m_mapEnd (x1 : Int) (h0 : g 130 18 = 0) : X xs d k_M_map 26 [mR 130, mI x1, mI 1, mC 0] [] g = some ([mI (g 131 1656)], upM (upM (cpM g) 130 16 0) 130 2 0) := by
  rw [e_M_map_26, if_pos h0]
  have st : ∀ i : Nat, i < 414 → X xs d k_M_map 31 [mR 130, mI x1, mI 1, mI (i : Int)] [] (rowU g 131 (i : Int) (fun k => g 131 (1656 + k))) = X xs d k_M_map 31 [mR 130, mI x1, mI 1, mI ((i + 1 : Nat) : Int)] [] (rowU g 131 ((i + 1 : Nat) : Int) (fun k => g 131 (1656 + k))) := by
    intro i hi
    rw [e_M_map_31]
    refine if_y (by omega) ?_
    refine if_y (by omega) ?_
    refine if_y (by omega) ?_
    refine if_y (by omega) ?_
    refine if_y (by omega) ?_
    rw [rowU_out (by omega), rowU_up (by omega) rfl]
    rfl
  have r1 := run_to (fun i : Nat => X xs d k_M_map 31 [mR 130, mI x1, mI 1, mI (i : Int)] [] (rowU g 131 (i : Int) (fun k => g 131 (1656 + k)))) st
  have r0 : X xs d k_M_map 31 [mR 130, mI x1, mI 1, mI 0] [] g = X xs d k_M_map 31 [mR 130, mI x1, mI 1, mI ((0 : Nat) : Int)] [] (rowU g 131 ((0 : Nat) : Int) (fun k => g 131 (1656 + k))) := by
    rw [show ((0 : Nat) : Int) = 0 from rfl, rowU_0]
  rw [r0]
  refine r1.trans ?_
  rw [e_M_map_31]
  refine if_n (by omega) ?_
  generalize hk : rowU g 131 ((414 : Nat) : Int) (fun k => g 131 (1656 + k)) = k
  have k132 : k 132 = g 132 := by rw [← hk, rowU_ne (by omega)]
  have st2 : ∀ i : Nat, i < 7 → X xs d k_M_map 48 [mR 130, mI x1, mI 1, mI (i : Int)] [] (rowU k 132 (i : Int) (fun j => g 132 (28 + j))) = X xs d k_M_map 48 [mR 130, mI x1, mI 1, mI ((i + 1 : Nat) : Int)] [] (rowU k 132 ((i + 1 : Nat) : Int) (fun j => g 132 (28 + j))) := by
    intro i hi
    rw [e_M_map_48]
    refine if_y (by omega) ?_
    refine if_y (by omega) ?_
    refine if_y (by omega) ?_
    refine if_y (by omega) ?_
    refine if_y (by omega) ?_
    rw [rowU_out (by omega), k132, rowU_up (by omega) rfl]
    rfl
  have r2 := run_to (fun i : Nat => X xs d k_M_map 48 [mR 130, mI x1, mI 1, mI (i : Int)] [] (rowU k 132 (i : Int) (fun j => g 132 (28 + j)))) st2
  have r3 : X xs d k_M_map 48 [mR 130, mI x1, mI 1, mI 0] [] k = X xs d k_M_map 48 [mR 130, mI x1, mI 1, mI ((0 : Nat) : Int)] [] (rowU k 132 ((0 : Nat) : Int) (fun j => g 132 (28 + j))) := by
    rw [show ((0 : Nat) : Int) = 0 from rfl, rowU_0]
  rw [r3]
  refine r2.trans ?_
  rw [e_M_map_48]
  refine if_n (by omega) ?_
  have e0 : rowU k 132 ((7 : Nat) : Int) (fun j => g 132 (28 + j)) 131 0 = g 131 1656 := by
    rw [rowU_ne (by omega), ← hk, rowU_in (by omega)]
    rfl
  have e18 : rowU k 132 ((7 : Nat) : Int) (fun j => g 132 (28 + j)) 130 18 = 0 := by
    rw [rowU_ne (by omega), ← hk, rowU_ne (by omega)]
    exact h0
  rw [e0]
  refine cI_of (v := g 131 1656) (h := upM (upM (cpM g) 130 16 0) 130 2 0) ?_ rfl
  rw [c_M_taken, e18, if_neg (by decide)]
  refine cI_of (c_M_gives xs d _ _) ?_
  rw [← hk]
  rfl
theorem m_mapBad (x1 : Int) (h0 : 0 < g 130 18) : X xs d k_M_map 26 [mR 130, mI x1, mI 0, mC 0] [] g = some ([mI (-1)], upM (upM g 130 16 (g 130 18)) 130 2 9) := by
  rw [e_M_map_26, if_neg (by omega)]
  refine cI_of (v := -1) (h := upM (upM g 130 16 (g 130 18)) 130 2 9) ?_ rfl
  rw [c_M_taken, if_pos h0]
  refine cI_of (c_M_refuse xs d _ _) ?_
  rfl
theorem keptM_T : ∀ a, keptM.elem a = true → a ≠ 0 ∧ a ≠ 9 ∧ (a < 37 ∨ 55 < a) ∧ a ≠ 130 ∧ a ≠ 131 ∧ a ≠ 132 ∧ a ≠ 137 ∧ a ≠ 138 ∧ (a < 12 ∨ 20 < a) ∧ a ≠ 30 ∧ (a < 31 ∨ 36 < a) := fun a h => by
  have : ∀ b ∈ keptM, b ≠ 0 ∧ b ≠ 9 ∧ (b < 37 ∨ 55 < b) ∧ b ≠ 130 ∧ b ≠ 131 ∧ b ≠ 132 ∧ b ≠ 137 ∧ b ≠ 138 ∧ (b < 12 ∨ 20 < b) ∧ b ≠ 30 ∧ (b < 31 ∨ 36 < b) := by decide
  exact this a (List.elem_iff.mp h)
theorem q_map (R : Rel h) (x : Int) : QI xs d h 12 120 [mI x] := by
  obtain ⟨c, k⟩ := R.co
  obtain ⟨R1, R2, R3, R4, R5, R6, R7, R8, R9⟩ := id R
  by_cases q : 0 ≤ x ∧ x ≤ h 9 2
  rotate_left
  · refine QI.ans R 1 (-1) ?_ ?_
    · rw [c_T_map]
      refine cI_of (c_Tp_length xs d h) ?_
      refine cI_of (t_within) ?_
      rw [if_pos (b2i_0.mpr q)]
      refine cI_of (c_T_refuse xs d _ h) ?_
      rfl
    · rw [c_M_map]
      refine cI_of (m_beginsNo (by rw [up_ne (by omega), ← R4.1]; omega)) ?_
      rw [if_pos rfl]
      refine cI_of (c_M_refuse xs d _ _) ?_
      rfl
  obtain ⟨n, rfl⟩ : ∃ n : Nat, x = (n : Int) := ⟨x.toNat, by omega⟩
  have sim := fun (m0 : mM) (e10 : m0 130 10 = h 130 10) (e136 : m0 136 = h 136) => map_sim (xs := xs) (d := d) (h := h) (m0 := m0) (n := n) (by omega) q.2 (by rw [e10, ← R4.1]; exact q.2) (fun i a b => by rw [e136]; exact R4.2.2 i a (by omega)) R9.1
  obtain ⟨b, gT, gM0, t1, _, A0, D0⟩ := sim h rfl rfl
  -- the class up to the end of the text
  have preT : ∀ o, (if b = (0 : Int) then cI (C xs d 68 0 [mR 0, mI 9] (upM gT 9 2 0)) (fun v6 h6 => some ([mI v6], h6)) else cR (C xs d 281 0 [mR 37] (upM gT 9 2 0)) (fun v5 h5 => X xs d k_T_map 30 [mR 0, mI (n : Int), mI b] [mR v5, mR 12] h5)) = o → C xs d 12 0 [mR 0, mI (n : Int)] h = o := by
    intro o ho
    rw [c_T_map]
    refine cI_of (c_Tp_length xs d h) ?_
    refine cI_of (t_within) ?_
    rw [if_neg (fun z => b2i_0.mp z q)]
    refine cI_of (t1) ?_
    refine cV_of (c_Tp_empty xs d _) ?_
    exact ho
  obtain ⟨a1, a2, -, -, -, -, -, a8, -⟩ := A0
  rcases a8 with rfl | rfl
  · -- a good one
    obtain ⟨c0, D0⟩ := D0 rfl
    have w0 := D0.2.2.1
    obtain ⟨h4, s1, s2, s3, s4⟩ := t_takeFrom (xs := xs) (d := d) (b0 := 12) (b1 := 38) (h := upM gT 9 2 0) (by omega) (D0.1.mv (fun a h1 h2 => up_row (by omega))) w0.1
    generalize h5e : upM (upM (upM h4 30 6 0) 30 7 0) 30 8 0 = h5
    have h5r : ∀ a, a ≠ 30 → h5 a = h4 a := fun a ha => by rw [← h5e, up_row ha, up_row ha, up_row ha]
    have h4r : ∀ a, a ≠ 9 → (a < 12 ∨ 20 < a) → h4 a = gT a := fun a a1 a2 => by
      rw [s4 a (by simp [coL]; omega), up_row a1]
    have hTE : C xs d 12 0 [mR 0, mI (n : Int)] h = some ([mI (c0 0 0)], upM h5 0 0 0) := by
      refine preT _ ?_
      rw [if_neg (by decide)]
      refine cR_of (c_MR_draft xs d _) ?_
      rw [e_T_map_30]
      refine cV_of (s1) ?_
      refine cV_of (h := h5) ?_ ?_
      · rw [c_Ti_forget xs d (by omega), h5e]
      rw [h5r 12 (by omega), s2.n]
      refine cI_of (c_T_answer xs d _ _) ?_
      rfl
    -- the reference from there on
    have mr : ∀ a, a ≠ 0 → a ≠ 9 → (a < 12 ∨ 20 < a) → a ≠ 30 → (a < 37 ∨ 55 < a) → upM h5 0 0 0 a = h a := fun a z0 z9 z12 z30 z37 => by rw [up_row z0, h5r a z30, h4r a z9 z12, a1 a z9 z37]
    obtain ⟨b', gT', gM, t1', m1, A, D⟩ := sim (upM h5 0 0 0) (by rw [mr 130 (by omega) (by omega) (by omega) (by omega) (by omega)]) (mr 136 (by omega) (by omega) (by omega) (by omega) (by omega))
    rw [t1] at t1'
    obtain ⟨rfl, rfl⟩ : (1 : Int) = b' ∧ gT = gT' := by
      have := Option.some.inj t1'
      injection this with e1 e2
      injection e1 with e3
      injection e3 with e4
      exact ⟨e4, e2⟩
    obtain ⟨c', D⟩ := D rfl
    obtain ⟨-, -, A3, A4, A5, A6, A7, -, A9, A10, A11, -⟩ := A
    obtain ⟨d1, d2, d3, d4, d5, d6⟩ := D
    have z18 := A11 rfl
    have cc : c' 0 0 = c0 0 0 := by rw [← d1.n, D0.1.n]
    obtain ⟨h4', s1', s2', s3', -⟩ := t_takeFrom (xs := xs) (d := d) (b0 := 12) (b1 := 38) (h := upM gT 9 2 0) (by omega) (d1.mv (fun a h1 h2 => up_row (by omega))) d3.1
    obtain rfl : h4 = h4' := by
      rw [s1] at s1'
      have := Option.some.inj s1'
      injection this
    have m56 : gM 131 1656 = c' 0 0 := by
      have := d2.n
      unfold shM at this
      rwa [Int.add_zero] at this
    refine ⟨c0 0 0, _, upM (upM (cpM gM) 130 16 0) 130 2 0, hTE, by rw [m1, m_mapEnd _ z18, m56, cc], ?_⟩
    -- what has become of it
    generalize hF : upM (upM (cpM gM) 130 16 0) 130 2 0 = F
    have Fr : ∀ a, a ≠ 130 → a ≠ 131 → a ≠ 132 → F a = gM a := fun a z1 z2 z3 => by rw [← hF, up_row z1, up_row z1, cpM, rowU_ne z3, rowU_ne z2]
    have F130 : ∀ j, j ≠ 2 → j ≠ 16 → F 130 j = gM 130 j := fun j z1 z2 => by rw [← hF, up_at, if_neg z1, up_at, if_neg z2, cpM, rowU_ne (by omega), rowU_ne (by omega)]
    have F131 : ∀ j, 0 ≤ j → j < 414 → F 131 j = gM 131 (1656 + j) := fun j z1 z2 => by rw [← hF, up_ne (by omega), up_ne (by omega), cpM, rowU_ne (by omega), rowU_in ⟨z1, z2⟩]
    have F131o : ∀ j, 414 ≤ j → F 131 j = gM 131 j := fun j z1 => by rw [← hF, up_ne (by omega), up_ne (by omega), cpM, rowU_ne (by omega), rowU_out (by omega)]
    have F132 : ∀ j, 0 ≤ j → j < 7 → F 132 j = gM 132 (28 + j) := fun j z1 z2 => by rw [← hF, up_ne (by omega), up_ne (by omega), cpM, rowU_in ⟨z1, z2⟩]
    have F132o : ∀ j, 7 ≤ j → F 132 j = gM 132 j := fun j z1 => by rw [← hF, up_ne (by omega), up_ne (by omega), cpM, rowU_out (by omega), rowU_ne (by omega)]
    have Fm : ∀ a, a ≠ 130 → a ≠ 131 → a ≠ 132 → a ≠ 137 → a ≠ 138 → F a = upM h5 0 0 0 a := fun a z1 z2 z3 z4 z5 => by rw [Fr a z1 z2 z3, A3 a z1 z2 z3 z4 z5]
    have F9 : F 9 = upM gT 9 2 0 9 := by rw [Fm 9 (by omega) (by omega) (by omega) (by omega) (by omega), up_row (by omega), h5r 9 (by omega), s4 9 (by simp [coL])]
    have F0 : ∀ j, j ≠ 0 → F 0 j = h 0 j := fun j hj => by rw [Fm 0 (by omega) (by omega) (by omega) (by omega) (by omega), up_at, if_neg hj, h5r 0 (by omega), h4r 0 (by omega) (by omega), a1 0 (by omega) (by omega)]
    have F00 : F 0 0 = 0 := by rw [Fm 0 (by omega) (by omega) (by omega) (by omega) (by omega), up_eq]
    have Fm13 : ∀ j, (j < 10 ∨ j = 16 ∨ 23 < j) → j ≠ 2 → j ≠ 16 → F 130 j = h 130 j := fun j hj z1 z2 => by rw [F130 j z1 z2, A4 j hj, mr 130 (by omega) (by omega) (by omega) (by omega) (by omega)]
    have F16 : F 130 16 = 0 := by rw [← hF, up_at, if_neg (by omega), up_eq]
    have F2 : F 130 2 = 0 := by rw [← hF, up_eq]
    have FT : ∀ a, a ≠ 0 → a ≠ 9 → (a < 12 ∨ 20 < a) → a ≠ 30 → (a < 37 ∨ 55 < a) → a ≠ 130 → a ≠ 131 → a ≠ 132 → a ≠ 137 → a ≠ 138 → F a = h a := fun a z0 z9 z12 z30 z37 y1 y2 y3 y4 y5 => by rw [Fm a y1 y2 y3 y4 y5, mr a z0 z9 z12 z30 z37]
    have S : SlotR 12 30 c' F 0 0 := by
      refine ⟨s2'.mv (fun a z1 z2 => by rw [Fm a (by omega) (by omega) (by omega) (by omega) (by omega), up_row (by omega), h5r a (by omega)]), ?_, d3, by rw [d4]; omega, ?_, ?_⟩
      · refine CoM.z.mpr ?_
        obtain ⟨k1, k2, k3, k4, k5, k6, k7, k8⟩ := d2
        have hc := d3.1
        have e : ∀ j, 0 ≤ j → j < 414 → F 131 j = shM gM 131 j := fun j a b => F131 j a b
        exact ⟨(e _ (by omega) (by omega)).trans k1, (e _ (by omega) (by omega)).trans k2, fun i a b => (e _ (by omega) (by omega)).trans (k3 i a b), fun i a b => (e _ (by omega) (by omega)).trans (k4 i a b), fun i a b => (e _ (by omega) (by omega)).trans (k5 i a b), fun i a b => (e _ (by omega) (by omega)).trans (k6 i a b), fun i a b => (e _ (by omega) (by omega)).trans (k7 i a b), fun i a b => (e _ (by omega) (by omega)).trans (k8 i a b)⟩
      · have hc := d3.1
        refine d5.mv (fun p z1 z2 => ?_) (fun p z1 z2 => ?_)
        · rw [Fm (12 + 7) (by omega) (by omega) (by omega) (by omega) (by omega), up_row (by omega), h5r (12 + 7) (by omega), s3' p z1 z2, up_ne (by omega)]
        · rw [Int.zero_add, F132 p z1 (by omega)]
      · have e30 : ∀ j, F 30 j = if j = 8 then 0 else if j = 7 then 0 else if j = 6 then 0 else h4 30 j := fun j => by
          rw [Fm 30 (by omega) (by omega) (by omega) (by omega) (by omega), up_ne (by omega), ← h5e, up_at, up_at, up_at]
        unfold TiR
        rw [e30 8, e30 6, e30 7, if_pos rfl, if_neg (by decide), if_pos rfl, if_neg (by decide), if_neg (by decide), if_pos rfl]
        refine ⟨Or.inl rfl, ?_, by omega, by omega, fun z => absurd z (by decide)⟩
        show F 131 (0 + 8) = -1
        rw [Int.zero_add, F131 8 (by omega) (by omega)]
        exact d6
    refine R.gen S ?_ ⟨?_, ?_⟩ ⟨?_, ?_, fun i z1 z2 => ?_⟩ ⟨?_, ?_⟩ ?_ (fun a ha => ?_) (fun j z1 z2 => ?_) (fun j z1 z2 => ?_) ?_
    · rw [F00, F2]
    · rw [F0 1 (by omega), Fm13 3 (by omega) (by omega) (by omega)]; exact R2.1
    · rw [F0 2 (by omega), Fm13 4 (by omega) (by omega) (by omega)]; exact R2.2
    · rw [F9, up_eq, F130 10 (by omega) (by omega), A5]
    · rw [F9, up_eq]; omega
    · rw [F9, up_eq] at z2; omega
    · rw [F9, up_at, if_neg (by omega), F16, A9, z18]
    · rw [F9, up_at, if_neg (by omega), F130 17 (by omega) (by omega), A10]
    · rw [F0 3 (by omega), Fm13 44 (by omega) (by omega) (by omega), FT 107 (by omega) (by omega) (by omega) (by omega) (by omega) (by omega) (by omega) (by omega) (by omega) (by omega), FT 152 (by omega) (by omega) (by omega) (by omega) (by omega) (by omega) (by omega) (by omega) (by omega) (by omega)]
      exact R8
    · obtain ⟨y0, y9, y37, y130, y131, y132, y137, y138, y12, y30, y31⟩ := keptM_T a ha
      exact FT a y0 y9 y12 y30 y37 y130 y131 y132 y137 y138
    · rw [F132o j z1, A7 j (by omega), mr 132 (by omega) (by omega) (by omega) (by omega) (by omega)]
    · rw [F131o j z1, A6 j z2, mr 131 (by omega) (by omega) (by omega) (by omega) (by omega)]
    · rw [Fm13 45 (by omega) (by omega) (by omega)]
  · -- a bad one
    have hTE : C xs d 12 0 [mR 0, mI (n : Int)] h = some ([mI (-1)], upM (upM gT 9 2 0) 0 0 9) := by
      refine preT _ ?_
      rw [if_pos rfl]
      refine cI_of (c_T_refuse xs d _ _) ?_
      rfl
    have mr : ∀ a, a ≠ 0 → a ≠ 9 → (a < 37 ∨ 55 < a) → upM (upM gT 9 2 0) 0 0 9 a = h a := fun a z0 z9 z37 => by rw [up_row z0, up_row z9, a1 a z9 z37]
    obtain ⟨b', gT', gM, t1', m1, A, -⟩ := sim (upM (upM gT 9 2 0) 0 0 9) (by rw [mr 130 (by omega) (by omega) (by omega)]) (mr 136 (by omega) (by omega) (by omega))
    rw [t1] at t1'
    obtain ⟨rfl, rfl⟩ : (0 : Int) = b' ∧ gT = gT' := by
      have := Option.some.inj t1'
      injection this with e1 e2
      injection e1 with e3
      injection e3 with e4
      exact ⟨e4, e2⟩
    obtain ⟨-, -, A3, A4, A5, A6, A7, -, A9, A10, -, A12⟩ := A
    have z18 := A12 rfl
    refine ⟨-1, _, upM (upM gM 130 16 (gM 130 18)) 130 2 9, hTE, by rw [m1, m_mapBad _ z18], ?_⟩
    generalize hF : upM (upM gM 130 16 (gM 130 18)) 130 2 9 = F
    have Fr : ∀ a, a ≠ 130 → F a = gM a := fun a z1 => by rw [← hF, up_row z1, up_row z1]
    have F130 : ∀ j, j ≠ 2 → j ≠ 16 → F 130 j = gM 130 j := fun j z1 z2 => by rw [← hF, up_at, if_neg z1, up_at, if_neg z2]
    have Fm : ∀ a, a ≠ 130 → a ≠ 131 → a ≠ 132 → a ≠ 137 → a ≠ 138 → F a = upM (upM gT 9 2 0) 0 0 9 a := fun a z1 z2 z3 z4 z5 => by rw [Fr a z1, A3 a z1 z2 z3 z4 z5]
    have F9 : F 9 = upM gT 9 2 0 9 := by rw [Fm 9 (by omega) (by omega) (by omega) (by omega) (by omega), up_row (by omega)]
    have F0 : ∀ j, j ≠ 0 → F 0 j = h 0 j := fun j hj => by rw [Fm 0 (by omega) (by omega) (by omega) (by omega) (by omega), up_at, if_neg hj, up_ne (by omega), a1 0 (by omega) (by omega)]
    have F00 : F 0 0 = 9 := by rw [Fm 0 (by omega) (by omega) (by omega) (by omega) (by omega), up_eq]
    have Fm13 : ∀ j, (j < 10 ∨ j = 16 ∨ 23 < j) → j ≠ 2 → j ≠ 16 → F 130 j = h 130 j := fun j hj z1 z2 => by rw [F130 j z1 z2, A4 j hj, mr 130 (by omega) (by omega) (by omega)]
    have F16 : F 130 16 = gM 130 18 := by rw [← hF, up_at, if_neg (by omega), up_eq]
    have F2 : F 130 2 = 9 := by rw [← hF, up_eq]
    have FT : ∀ a, a ≠ 0 → a ≠ 9 → (a < 37 ∨ 55 < a) → a ≠ 130 → a ≠ 131 → a ≠ 132 → a ≠ 137 → a ≠ 138 → F a = h a := fun a z0 z9 z37 y1 y2 y3 y4 y5 => by rw [Fm a y1 y2 y3 y4 y5, mr a z0 z9 z37]
    have F131 : ∀ j, j < 1656 → F 131 j = h 131 j := fun j hj => by rw [Fr 131 (by omega), A6 j hj, mr 131 (by omega) (by omega) (by omega)]
    have F132 : ∀ j, j < 28 → F 132 j = h 132 j := fun j hj => by rw [Fr 132 (by omega), A7 j hj, mr 132 (by omega) (by omega) (by omega)]
    have S : SlotR 12 30 c F 0 0 := by
      obtain ⟨k1, k2, k3, k4, k5, k6⟩ := k
      have hc := k3.1
      refine ⟨k1.mv (fun a z1 z2 => FT a (by omega) (by omega) (by omega) (by omega) (by omega) (by omega) (by omega) (by omega)), ?_, k3, k4, k5.mv (fun p z1 z2 => by rw [FT (12 + 7) (by omega) (by omega) (by omega) (by omega) (by omega) (by omega) (by omega) (by omega)]) (fun p z1 z2 => F132 _ (by omega)), k6.mv (fun a z1 z2 => FT a (by omega) (by omega) (by omega) (by omega) (by omega) (by omega) (by omega) (by omega)) (fun j hj => F131 _ (by omega))⟩
      refine CoM.z.mpr ?_
      obtain ⟨p1, p2, p3, p4, p5, p6, p7, p8⟩ := CoM.z.mp k2
      have e : ∀ j, j < 1656 → F 131 j = h 131 j := F131
      exact ⟨(e _ (by omega)).trans p1, (e _ (by omega)).trans p2, fun i a b => (e _ (by omega)).trans (p3 i a b), fun i a b => (e _ (by omega)).trans (p4 i a b), fun i a b => (e _ (by omega)).trans (p5 i a b), fun i a b => (e _ (by omega)).trans (p6 i a b), fun i a b => (e _ (by omega)).trans (p7 i a b), fun i a b => (e _ (by omega)).trans (p8 i a b)⟩
    refine R.gen S ?_ ⟨?_, ?_⟩ ⟨?_, ?_, fun i z1 z2 => ?_⟩ ⟨?_, ?_⟩ ?_ (fun a ha => ?_) (fun j z1 z2 => ?_) (fun j z1 z2 => ?_) ?_
    · rw [F00, F2]
    · rw [F0 1 (by omega), Fm13 3 (by omega) (by omega) (by omega)]; exact R2.1
    · rw [F0 2 (by omega), Fm13 4 (by omega) (by omega) (by omega)]; exact R2.2
    · rw [F9, up_eq, F130 10 (by omega) (by omega), A5]
    · rw [F9, up_eq]; omega
    · rw [F9, up_eq] at z2; omega
    · rw [F9, up_at, if_neg (by omega), F16, A9]
    · rw [F9, up_at, if_neg (by omega), F130 17 (by omega) (by omega), A10]
    · rw [F0 3 (by omega), Fm13 44 (by omega) (by omega) (by omega), FT 107 (by omega) (by omega) (by omega) (by omega) (by omega) (by omega) (by omega) (by omega), FT 152 (by omega) (by omega) (by omega) (by omega) (by omega) (by omega) (by omega) (by omega)]
      exact R8
    · obtain ⟨y0, y9, y37, y130, y131, y132, y137, y138, y12, y30, y31⟩ := keptM_T a ha
      exact FT a y0 y9 y37 y130 y131 y132 y137 y138
    · exact F132 j z2
    · exact F131 j z2
    · rw [Fm13 45 (by omega) (by omega) (by omega)]
end
