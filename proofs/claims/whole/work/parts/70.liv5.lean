/-! EQUIV 40: live and mean -/
section
variable {xs : List Int} {d : Nat} {h : mM}
theorem m_liveEnd (x : Int) (g : mM) : X xs d k_M_live 25 [mR 130, mI x, mI 0] [] g = some ([mI (g 130 40)], upM (upM (rowU g 152 5 (fun j => g 151 j)) 130 44 1) 130 2 0) := by
  have st : ∀ i : Nat, i < 5 → X xs d k_M_live 25 [mR 130, mI x, mI (i : Int)] [] (rowU g 152 (i : Int) (fun j => g 151 j)) = X xs d k_M_live 25 [mR 130, mI x, mI ((i + 1 : Nat) : Int)] [] (rowU g 152 ((i + 1 : Nat) : Int) (fun j => g 151 j)) := by
    intro i hi
    rw [e_M_live_25]
    refine if_y (by omega) ?_
    refine if_y (by omega) ?_
    refine if_y (by omega) ?_
    refine if_y (by omega) ?_
    rw [rowU_ne (by omega), rowU_up (by omega) rfl]
    rfl
  have r1 := run_to (fun i : Nat => X xs d k_M_live 25 [mR 130, mI x, mI (i : Int)] [] (rowU g 152 (i : Int) (fun j => g 151 j))) st
  have r0 : X xs d k_M_live 25 [mR 130, mI x, mI 0] [] g = X xs d k_M_live 25 [mR 130, mI x, mI ((0 : Nat) : Int)] [] (rowU g 152 ((0 : Nat) : Int) (fun j => g 151 j)) := by
    rw [show ((0 : Nat) : Int) = 0 from rfl, rowU_0]
  rw [r0]
  refine r1.trans ?_
  rw [e_M_live_25]
  refine if_n (by omega) ?_
  rw [rowU_ne (by omega)]
  refine cI_of (c_M_gives xs d _ _) ?_
  rfl
theorem TfL_107 {g g' : mM} (t : TfL 107 12 g g') {a : Nat} (ha : a ≠ 12 ∧ a ≠ 16 ∧ a ≠ 17 ∧ a ≠ 20 ∧ a ≠ 107 ∧ a ≠ 108) : g' a = g a := t a (by simp; omega)
theorem TfL_109 {g g' : mM} (t : TfL 109 21 g g') {a : Nat} (ha : a ≠ 21 ∧ a ≠ 25 ∧ a ≠ 26 ∧ a ≠ 29 ∧ a ≠ 109 ∧ a ≠ 110) : g' a = g a := t a (by simp; omega)
theorem keptM_L : ∀ a, keptM.elem a = true → a ≠ 150 → a ≠ 0 ∧ a ≠ 12 ∧ a ≠ 16 ∧ a ≠ 17 ∧ a ≠ 20 ∧ a ≠ 107 ∧ a ≠ 108 ∧ a ≠ 130 ∧ a ≠ 131 ∧ a ≠ 139 ∧ a ≠ 151 ∧ a ≠ 152 := fun a h hn => by
  have : ∀ b ∈ keptM, b ≠ 150 → b ≠ 0 ∧ b ≠ 12 ∧ b ≠ 16 ∧ b ≠ 17 ∧ b ≠ 20 ∧ b ≠ 107 ∧ b ≠ 108 ∧ b ≠ 130 ∧ b ≠ 131 ∧ b ≠ 139 ∧ b ≠ 151 ∧ b ≠ 152 := by decide
  exact this a (List.elem_iff.mp h) hn
theorem q_live (R : Rel h) (x : Int) : QI xs d h 62 219 [mI x] := by
  obtain ⟨c, k⟩ := R.co
  obtain ⟨R1, R2, R3, R4, R5, R6, R7, R8, R9⟩ := id R
  have kT := k.1
  have kM := CoM.z.mp k.2.1
  have w := k.2.2.1
  have TI := k.2.2.2.2.2
  have t8 := TI.1
  have s8 : h 131 8 = if h 30 8 = 1 then h 30 6 else -1 := by
    have := TI.2.1
    dsimp only at this
    rwa [Int.zero_add] at this
  have r6 := TI.2.2.1
  by_cases q : 0 ≤ x ∧ x ≤ 9999
  rotate_left
  · refine QI.ans R 1 (-1) ?_ ?_
    · rw [c_T_live]
      refine cI_of (t_within) ?_
      rw [if_pos (b2i_0.mpr q)]
      refine cI_of (c_T_refuse xs d _ h) ?_
      rfl
    · rw [c_M_live]
      refine cI_of (m_isFrom) ?_
      rw [if_pos (b2i_0.mpr q)]
      refine cI_of (c_M_refuse xs d _ _) ?_
      rfl
  by_cases th : h 30 8 = 0
  · refine QI.ans R 6 (-1) ?_ ?_
    · rw [c_T_live]
      refine cI_of (t_within) ?_
      rw [if_neg (fun z => b2i_0.mp z q), if_pos th]
      refine cI_of (c_T_refuse xs d _ h) ?_
      rfl
    · rw [c_M_live]
      refine cI_of (m_isFrom) ?_
      rw [if_neg (fun z => b2i_0.mp z q), up_ne (by omega), (show h 131 8 = -1 by rw [s8, if_neg (by omega)]), if_pos rfl]
      refine cI_of (c_M_refuse xs d _ _) ?_
      rfl
  have th1 : h 30 8 = 1 := by omega
  rw [if_pos th1] at s8
  have sim := fun (m0 : mM) (e131 : m0 131 = h 131) (e150 : m0 150 = h 150) => lives_sim (xs := xs) (d := d) (b0 := 107) (b1 := 12) (Or.inl ⟨rfl, rfl⟩) (gM := m0) kT (kM.mv e131) w k.2.2.2.1 (TI.mv (fun _ _ _ => rfl) (fun j _ => by rw [e131])) th1 (fun j => by rw [e150]; exact R9.2 j) (seed := x) (by omega)
  obtain ⟨gT2, gM9, c9, t1, _, F0⟩ := sim h rfl rfl
  have hTE : C xs d 62 0 [mR 0, mI x] h = some ([mI (gT2 107 2)], upM (upM gT2 0 3 1) 0 0 0) := by
    rw [c_T_live]
    refine cI_of (t_within) ?_
    rw [if_neg (fun z => b2i_0.mp z q), if_neg th]
    refine cV_of (t1) ?_
    refine cI_of (c_T_answer xs d _ _) ?_
    rfl
  have fT0 := F0.2.2.2.2.2.1
  have m0r : ∀ a, a ≠ 0 → (a ≠ 12 ∧ a ≠ 16 ∧ a ≠ 17 ∧ a ≠ 20 ∧ a ≠ 107 ∧ a ≠ 108) → upM (upM gT2 0 3 1) 0 0 0 a = h a := fun a z0 ha => by rw [up_row z0, up_row z0]; exact TfL_107 fT0 ha
  obtain ⟨gT3, gM, c', t3, m1, F⟩ := sim (upM (upM gT2 0 3 1) 0 0 0) (m0r 131 (by omega) (by omega)) (m0r 150 (by omega) (by omega))
  have gg : gT3 = gT2 := by
    rw [t1] at t3
    have := Option.some.inj t3
    injection this with _ e
    exact e.symm
  subst gg
  obtain ⟨⟨f1, f2, f3, f4⟩, f5, f6, ⟨f7, f8, f9, f10⟩, ⟨f11, f12⟩, fT, fM, fH⟩ := F
  refine ⟨gT3 107 2, _, upM (upM (rowU gM 152 5 (fun j => gM 151 j)) 130 44 1) 130 2 0, hTE, ?_, ?_⟩
  · rw [c_M_live]
    refine cI_of (m_isFrom) ?_
    rw [if_neg (fun z => b2i_0.mp z q), m0r 131 (by omega) (by omega), s8, if_neg (by omega)]
    refine cV_of (m1) ?_
    rw [m_liveEnd, f6]
  generalize hF : upM (upM (rowU gM 152 5 (fun j => gM 151 j)) 130 44 1) 130 2 0 = F
  have Fr : ∀ a, a ≠ 130 → a ≠ 152 → F a = gM a := fun a a1 a2 => by rw [← hF, up_row a1, up_row a1, rowU_ne a2]
  have Fm : ∀ a, a ≠ 0 → (a ≠ 12 ∧ a ≠ 16 ∧ a ≠ 17 ∧ a ≠ 20 ∧ a ≠ 107 ∧ a ≠ 108) → a ≠ 130 → a ≠ 131 → a ≠ 139 → a ≠ 150 → a ≠ 151 → a ≠ 152 → F a = h a := fun a z0 ha y1 y2 y3 y4 y5 y6 => by rw [Fr a y1 y6, fM.1 a y1 y2 y3 y4 y5, m0r a z0 ha]
  have F12 : ∀ a, 1 ≤ a → a ≤ 108 → F a = gT3 a := fun a h1 h2 => by rw [Fr a (by omega) (by omega), fM.1 a (by omega) (by omega) (by omega) (by omega) (by omega), up_row (by omega), up_row (by omega)]
  have F0' : ∀ j, F 0 j = if j = 0 then 0 else if j = 3 then 1 else h 0 j := fun j => by rw [Fr 0 (by omega) (by omega), fM.1 0 (by omega) (by omega) (by omega) (by omega) (by omega), up_at, up_at, TfL_107 fT0 (a := 0) (by omega)]
  have F130 : ∀ j, F 130 j = if j = 2 then 0 else if j = 44 then 1 else gM 130 j := fun j => by rw [← hF, up_at, up_at, rowU_ne (by omega)]
  have F130' : ∀ j, j ≠ 2 → j ≠ 44 → j ≠ 39 → j ≠ 40 → F 130 j = h 130 j := fun j z1 z2 z3 z4 => by rw [F130, if_neg z1, if_neg z2, fM.2.1 j z3 z4, m0r 130 (by omega) (by omega)]
  have F152 : ∀ j, 0 ≤ j → j < 5 → F 152 j = gM 151 j := fun j z1 z2 => by rw [← hF, up_ne (by omega), up_ne (by omega), rowU_in ⟨z1, z2⟩]
  have F131 : ∀ j, (46 ≤ j ∨ j = 8) → F 131 j = h 131 j := fun j hj => by rw [Fr 131 (by omega) (by omega), fM.2.2 j hj, m0r 131 (by omega) (by omega)]
  refine Rel.u150 (H := rs150 F h) ?_ (fun a ha => (rs150_ne ha).symm) (fun j => by rw [Fr 150 (by omega) (by omega)]; exact fH j)
  have S : SlotR 12 30 c' (rs150 F h) 0 0 := by
    refine ⟨f1.mv (fun a h1 h2 => by rw [rs150_ne (by omega), F12 a (by omega) (by omega)]), ?_, f3, f4, ?_, ?_⟩
    · refine CoM.z.mpr (f2.mv ?_)
      rw [rs150_ne (by omega), Fr 131 (by omega) (by omega)]
    · rw [f5]
      exact k.2.2.2.2.1.mv (fun p _ _ => by rw [rs150_ne (by omega), Fm (12 + 7) (by omega) (by omega) (by omega) (by omega) (by omega) (by omega) (by omega) (by omega)]) (fun p _ _ => by rw [rs150_ne (by omega), Fm 132 (by omega) (by omega) (by omega) (by omega) (by omega) (by omega) (by omega) (by omega)])
    · rw [f5]
      exact TI.mv (fun a h1 h2 => by rw [rs150_ne (by omega), Fm a (by omega) (by omega) (by omega) (by omega) (by omega) (by omega) (by omega) (by omega)]) (fun j hj => by rw [rs150_ne (by omega)]; exact F131 _ (by omega))
  refine R.gen S ?_ ⟨?_, ?_⟩ ⟨?_, ?_, fun i z1 z2 => ?_⟩ ⟨?_, ?_⟩ ?_ (fun a ha => ?_) (fun j z1 z2 => ?_) (fun j z1 z2 => ?_) ?_
  · rw [rs150_ne (by omega), rs150_ne (by omega), F0', F130, if_pos rfl, if_pos rfl]
  · rw [rs150_ne (by omega), rs150_ne (by omega), F0', if_neg (by omega), if_neg (by omega), F130' 3 (by omega) (by omega) (by omega) (by omega)]; exact R2.1
  · rw [rs150_ne (by omega), rs150_ne (by omega), F0', if_neg (by omega), if_neg (by omega), F130' 4 (by omega) (by omega) (by omega) (by omega)]; exact R2.2
  · rw [rs150_ne (by omega), rs150_ne (by omega), Fm 9 (by omega) (by omega) (by omega) (by omega) (by omega) (by omega) (by omega) (by omega), F130' 10 (by omega) (by omega) (by omega) (by omega)]; exact R4.1
  · rw [rs150_ne (by omega), Fm 9 (by omega) (by omega) (by omega) (by omega) (by omega) (by omega) (by omega) (by omega)]; exact R4.2.1
  · rw [rs150_ne (by omega), Fm 9 (by omega) (by omega) (by omega) (by omega) (by omega) (by omega) (by omega) (by omega)] at z2
    rw [rs150_ne (by omega), rs150_ne (by omega), Fm 10 (by omega) (by omega) (by omega) (by omega) (by omega) (by omega) (by omega) (by omega), Fm 136 (by omega) (by omega) (by omega) (by omega) (by omega) (by omega) (by omega) (by omega)]
    exact R4.2.2 i z1 z2
  · rw [rs150_ne (by omega), rs150_ne (by omega), Fm 9 (by omega) (by omega) (by omega) (by omega) (by omega) (by omega) (by omega) (by omega), F130' 16 (by omega) (by omega) (by omega) (by omega)]; exact R5.1
  · rw [rs150_ne (by omega), rs150_ne (by omega), Fm 9 (by omega) (by omega) (by omega) (by omega) (by omega) (by omega) (by omega) (by omega), F130' 17 (by omega) (by omega) (by omega) (by omega)]; exact R5.2
  · rw [rs150_ne (by omega), rs150_ne (by omega), rs150_ne (by omega), rs150_ne (by omega), F0', if_neg (by omega), if_pos rfl, F130, if_neg (by omega), if_pos rfl, F12 107 (by omega) (by omega), F152 0 (by omega) (by omega), F152 1 (by omega) (by omega), F152 2 (by omega) (by omega), F152 3 (by omega) (by omega), F152 4 (by omega) (by omega)]
    exact ⟨rfl, Or.inr rfl, f12, fun _ => ⟨f7, f8, f9, f10, f11⟩⟩
  · by_cases z : a = 150
    · rw [z, rs150_eq]
    · obtain ⟨y0, y12, y16, y17, y20, y107, y108, y130, y131, y139, y151, y152⟩ := keptM_L a ha z
      rw [rs150_ne z]
      exact Fm a y0 ⟨y12, y16, y17, y20, y107, y108⟩ y130 y131 y139 z y151 y152
  · rw [rs150_ne (by omega), Fm 132 (by omega) (by omega) (by omega) (by omega) (by omega) (by omega) (by omega) (by omega)]
  · rw [rs150_ne (by omega)]
    exact F131 j (by omega)
  · rw [rs150_ne (by omega)]
    exact F130' 45 (by omega) (by omega) (by omega) (by omega)
end
