/-! EQUIV 6: calls by which people change -/
theorem CoT.set {b : Nat} {c : Kc} {h : mM} (k : CoT b c h) {f : Nat} (hf : 3 ≤ f ∧ f ≤ 7) (p v : Int) : CoT b (setC c f p v) (upM h (b + (f - 1)) p v) := by
  have e0 : ∀ g i, g ≠ f → setC c f p v g i = c g i := fun g i hg => if_neg (fun z => hg z.1)
  have key : ∀ g, 3 ≤ g → g ≤ 7 → (∀ i, 0 ≤ i → i < c 0 0 → h (b + (g - 1)) i = c g i) → ∀ i, 0 ≤ i → i < setC c f p v 0 0 → upM h (b + (f - 1)) p v (b + (g - 1)) i = setC c f p v g i := by
    intro g g1 g2 hk i h1 h2
    rw [e0 0 0 (by omega)] at h2
    unfold setC upM
    by_cases e : g = f ∧ i = p
    · rw [if_pos e, if_pos (by omega)]
    · rw [if_neg e, if_neg (by omega), hk i h1 h2]
  refine ⟨?_, ?_, fun i h1 h2 => ?_, key 3 (by omega) (by omega) k.p, key 4 (by omega) (by omega) k.m, key 5 (by omega) (by omega) k.w, key 6 (by omega) (by omega) k.l, key 7 (by omega) (by omega) k.q⟩
  · rw [up_ne (by omega), e0 0 0 (by omega)]; exact k.n
  · rw [up_ne (by omega), e0 1 0 (by omega)]; exact k.g
  · rw [up_ne (by omega), e0 2 i (by omega)]; exact k.r i h1 h2
theorem setC_wf {c : Kc} (w : WfC c) {f : Nat} {p v : Int} (hv : (f = 3 ∧ 0 ≤ v ∧ v ≤ 59) ∨ (f = 4 ∧ 0 ≤ v ∧ v ≤ 9) ∨ (f = 5 ∧ 0 ≤ v ∧ v ≤ 99) ∨ (f = 6 ∧ 0 ≤ v ∧ v ≤ 9) ∨ (f = 7 ∧ 0 ≤ v ∧ v < c 0 0)) : WfC (setC c f p v) := by
  obtain ⟨hn, hg, r1, r2, r3, r4, r5, r6, hw⟩ := w
  have e : ∀ g i, g < 3 → setC c f p v g i = c g i := fun g i hg => if_neg (by omega)
  unfold WfC WfP
  simp only [e 0 _ (by omega), e 1 _ (by omega), e 2 _ (by omega)]
  refine ⟨hn, hg, r1, r2, r3, r4, r5, r6, fun i h1 h2 => ?_⟩
  obtain ⟨b1, b2, b3, b4, b5⟩ := hw i h1 h2
  unfold setC
  refine ⟨?_, ?_, ?_, ?_, ?_⟩
  · by_cases q : 3 = f ∧ i = p
    · rw [if_pos q]; omega
    · rw [if_neg q]; exact b1
  · by_cases q : 4 = f ∧ i = p
    · rw [if_pos q]; omega
    · rw [if_neg q]; exact b2
  · by_cases q : 5 = f ∧ i = p
    · rw [if_pos q]; omega
    · rw [if_neg q]; exact b3
  · by_cases q : 6 = f ∧ i = p
    · rw [if_pos q]; omega
    · rw [if_neg q]; exact b4
  · by_cases q : 7 = f ∧ i = p
    · rw [if_pos q]; omega
    · rw [if_neg q]; exact b5
section
variable {xs : List Int} {d : Nat} {h : mM}
theorem q_drink (R : Rel h) (x : Int) : QI xs d h 18 144 [mI x] := by
  obtain ⟨c, k⟩ := R.co
  have kT := k.1
  have kM := CoM.z.mp k.2.1
  have w := k.2.2.1
  have hg := k.2.2.2.1
  have hn := w.1
  by_cases q : 0 ≤ x ∧ x < c 0 0
  rotate_left
  · refine QI.ans R 1 (-1) ?_ ?_
    · rw [c_T_drink]
      refine cI_of (t_has12 kT x) ?_
      rw [if_pos (b2i_0.mpr q)]
      refine cI_of (c_T_refuse xs d _ h) ?_
      rfl
    · rw [c_M_drink]
      refine cI_of (m_isPerson (kM.z0 1) x) ?_
      rw [if_pos (b2i_0.mpr q)]
      refine cI_of (c_M_refuse xs d _ _) ?_
      rfl
  by_cases q2 : c 7 x ≠ -1 ∧ c 6 x ≠ 0
  rotate_left
  · refine QI.ans R 7 (-1) ?_ ?_
    · rw [c_T_drink]
      refine cI_of (t_has12 kT x) ?_
      rw [if_neg (fun z => b2i_0.mp z q)]
      refine cI_of (t_canDrink (by omega) kT w q) ?_
      rw [if_pos (b2i_0.mpr q2)]
      refine cI_of (c_T_refuse xs d _ h) ?_
      rfl
    · rw [c_M_drink]
      refine cI_of (m_isPerson (kM.z0 7) x) ?_
      rw [if_neg (fun z => b2i_0.mp z q)]
      refine cI_of (m_drinksNo (kM.z0 7) w q q2) ?_
      rw [if_pos rfl]
      refine cI_of (c_M_refuse xs d _ _) ?_
      rfl
  obtain ⟨a1, a2, a3, a4, a5⟩ := w.2.2.2.2.2.2.2.2 x q.1 q.2
  have kT2 := drC_T (p := x) kT
  have wd := drC_wf w q q2.1 q2.2
  have nd : drC c x 0 0 = c 0 0 := drC_0
  have e7 : drC c x 7 x = c 7 x := by unfold drC; rw [if_neg (by omega), if_neg (by omega)]
  have e5 : drC c x 5 (c 7 x) = min 99 (c 5 (c 7 x) + warmI c x) := by unfold drC; rw [if_neg (by omega), if_pos ⟨rfl, rfl⟩]
  obtain ⟨g2, s1, s2, s3⟩ := m_drinks (xs := xs) (d := d) (h := upM (upM (upM h (12 + 5) x (c 6 x - 1)) (12 + 4) (c 7 x) (min 99 (c 5 (c 7 x) + warmI c x))) 0 0 0) (kM.mv (by rw [up_row (by omega), up_row (by omega), up_row (by omega)])) w q q2.1 q2.2
  refine QI.mkU R k (min 99 (c 5 (c 7 x) + warmI c x)) 0 (g1 := upM (upM h (12 + 5) x (c 6 x - 1)) (12 + 4) (c 7 x) (min 99 (c 5 (c 7 x) + warmI c x))) ?_ kT2 (Keep.ow (L := [16, 17]) ((Ow.rf.up (by simp)).up (by simp)) (by decide)) ?_ s2 (Keep.oc s3) (fun a h1 h2 => by rw [s3.1 a (by omega) (by omega), up_row (by omega)]) (s3.1 0 (by omega) (by omega)) wd (by show c 1 0 ≤ 9999; exact hg) nd
  · rw [c_T_drink]
    refine cI_of (t_has12 kT x) ?_
    rw [if_neg (fun z => b2i_0.mp z q)]
    refine cI_of (t_canDrink (by omega) kT w q) ?_
    rw [if_neg (fun z => b2i_0.mp z q2)]
    refine cI_of (t_letDrink (by omega) kT w q q2.1 q2.2) ?_
    refine cI_of (c_T_answer xs d _ _) ?_
    rfl
  · rw [c_M_drink]
    refine cI_of (m_isPerson (kM.mv (by rw [up_row (by omega), up_row (by omega), up_row (by omega)])) x) ?_
    rw [if_neg (fun z => b2i_0.mp z q)]
    refine cI_of (s1) ?_
    rw [if_neg (by omega)]
    refine cI_of (m_whomOf s2 wd (by rw [nd]; exact q)) ?_
    refine cI_of (m_personOf (by omega) (by omega)) ?_
    rw [s2.w _ (by omega) (by omega), e7, e5]
    refine cI_of (c_M_gives xs d _ _) ?_
    rfl
theorem q_night (R : Rel h) (x : Int) : QI xs d h 19 148 [mI x] := by
  obtain ⟨c, k⟩ := R.co
  have kT := k.1
  have kM := CoM.z.mp k.2.1
  have w := k.2.2.1
  have hg := k.2.2.2.1
  have hn := w.1
  have hg0 := w.2.1
  by_cases q : 1 ≤ x ∧ x ≤ 99
  rotate_left
  · refine QI.ans R 1 (-1) ?_ ?_
    · rw [c_T_night]
      refine cI_of (t_within) ?_
      rw [if_pos (b2i_0.mpr q)]
      refine cI_of (c_T_refuse xs d _ h) ?_
      rfl
    · rw [c_M_night]
      refine cI_of (m_isFrom) ?_
      rw [if_pos (b2i_0.mpr q)]
      refine cI_of (c_M_refuse xs d _ _) ?_
      rfl
  by_cases q2 : c 1 0 + x ≤ 9999
  rotate_left
  · refine QI.ans R 4 (-1) ?_ ?_
    · rw [c_T_night]
      refine cI_of (t_within) ?_
      rw [if_neg (fun z => b2i_0.mp z q)]
      refine cI_of (t_hasNights (by omega) kT w (by omega)) ?_
      rw [if_pos (b2i_0.mpr q2)]
      refine cI_of (c_T_refuse xs d _ h) ?_
      rfl
    · rw [c_M_night]
      refine cI_of (m_isFrom) ?_
      rw [if_neg (fun z => b2i_0.mp z q), (kM.z0 4).g]
      refine if_y (by omega) ?_
      refine if_y (by omega) ?_
      refine cI_of (c_M_refuse xs d _ _) ?_
      rfl
  have kT2 := ntC_T (n := x) kT
  have wd := ntC_wf w (n := x) (by omega) (by omega)
  have nd : ntC c x 0 0 = c 0 0 := by unfold ntC; rw [if_neg (by omega), if_neg (by omega)]
  have gd : ntC c x 1 0 = c 1 0 + x := by unfold ntC; rw [if_neg (by omega), if_pos rfl]
  have e131 : ntM h 12 c x 131 = h 131 := by unfold ntM; rw [rowU_ne (by omega), up_row (by omega)]
  obtain ⟨g2, s1, s2, s3⟩ := m_nightsGo (xs := xs) (d := d) (h := upM (ntM h 12 c x) 0 0 0) (kM.mv (by rw [up_row (by omega), e131])) w (n := x) (by omega) (by omega)
  refine QI.mkU R k ((sq (litB (ntC c x)) (ntC c x 0 0).toNat : Nat) : Int) 0 (g1 := ntM h 12 c x) ?_ kT2 (Keep.ow (L := [12, 16]) (by unfold ntM; exact (Ow.rf.up (by simp)).row (by simp)) (by decide)) ?_ s2 (Keep.oc s3) (fun a h1 h2 => by rw [s3.1 a (by omega) (by omega), up_row (by omega)]) (s3.1 0 (by omega) (by omega)) wd (by rw [gd]; omega) nd
  · rw [c_T_night]
    refine cI_of (t_within) ?_
    rw [if_neg (fun z => b2i_0.mp z q)]
    refine cI_of (t_hasNights (by omega) kT w (by omega)) ?_
    rw [if_neg (fun z => b2i_0.mp z q2)]
    refine cV_of (t_passNights (by omega) kT w (by omega)) ?_
    refine cI_of (t_litSet (by omega) kT2 wd) ?_
    refine cI_of (c_T_answer xs d _ _) ?_
    rfl
  · rw [c_M_night]
    refine cI_of (m_isFrom) ?_
    have kM1 : CoM c (upM (ntM h 12 c x) 0 0 0) := kM.mv (by rw [up_row (by omega), e131])
    rw [if_neg (fun z => b2i_0.mp z q), kM1.g]
    refine if_y (by omega) ?_
    refine if_n (by omega) ?_
    refine cV_of (s1) ?_
    refine cI_of (m_areLit s2 wd) ?_
    refine cI_of (c_M_gives xs d _ _) ?_
    rfl
theorem q_evening (R : Rel h) : QI xs d h 20 150 [] := by
  obtain ⟨c, k⟩ := R.co
  have kT := k.1
  have kM := CoM.z.mp k.2.1
  have w := k.2.2.1
  have hg := k.2.2.2.1
  have hn := w.1
  have hg0 := w.2.1
  by_cases q2 : c 1 0 + 1 ≤ 9999
  rotate_left
  · refine QI.ans R 4 (-1) ?_ ?_
    · rw [c_T_evening]
      refine cI_of (t_hasNights (by omega) kT w (by omega)) ?_
      rw [if_pos (b2i_0.mpr q2)]
      refine cI_of (c_T_refuse xs d _ h) ?_
      rfl
    · rw [c_M_evening, (kM.z0 4).g]
      refine if_y (by omega) ?_
      refine cI_of (c_M_refuse xs d _ _) ?_
      rfl
  obtain ⟨g1, r1, r2, r3⟩ := t_passEvening (xs := xs) (d := d) (b := 12) (by omega) kT w (by omega) (-1) (by omega)
  have e131 : g1 131 = h 131 := r3 131 (by decide)
  obtain ⟨g2, s1, s2, s3⟩ := m_eveningGoes (xs := xs) (d := d) (h := upM g1 0 0 0) (kM.mv (by rw [up_row (by omega), e131])) w (by omega) (aw := -1) (Or.inl rfl)
  have nd : evC c (-1) 0 0 = c 0 0 := by unfold evC ntC; rw [if_neg (by omega), if_neg (by omega)]; rfl
  have gd : evC c (-1) 1 0 = c 1 0 + 1 := by unfold evC ntC; rw [if_neg (by omega), if_pos rfl]; rfl
  refine QI.mkU R k ((sq (evB c (-1)) (c 0 0).toNat : Nat) : Int) 0 (g1 := g1) ?_ r2 (Keep.ow (L := [12, 12 + 4, 12 + 8]) r3 (by decide)) ?_ s2 (Keep.oc s3) (fun a h1 h2 => by rw [s3.1 a (by omega) (by omega), up_row (by omega)]) (s3.1 0 (by omega) (by omega)) (evC_wf w (by omega)) (by rw [gd]; omega) nd
  · rw [c_T_evening]
    refine cI_of (t_hasNights (by omega) kT w (by omega)) ?_
    rw [if_neg (fun z => b2i_0.mp z q2)]
    refine cI_of (r1) ?_
    refine cI_of (c_T_answer xs d _ _) ?_
    rfl
  · have kM1 : CoM c (upM g1 0 0 0) := kM.mv (by rw [up_row (by omega), e131])
    rw [c_M_evening, kM1.g]
    refine if_n (by omega) ?_
    refine cI_of (s1) ?_
    refine cI_of (c_M_gives xs d _ _) ?_
    rfl

theorem q_fill (R : Rel h) (x y : Int) : QI xs d h 21 152 [mI x, mI y] := by
  obtain ⟨c, k⟩ := R.co
  have kT := k.1
  have kM := CoM.z.mp k.2.1
  have w := k.2.2.1
  have hg := k.2.2.2.1
  have hn := w.1
  by_cases q : 0 ≤ x ∧ x < c 0 0
  rotate_left
  · refine QI.ans R 1 (-1) ?_ ?_
    · rw [c_T_fill]
      refine cI_of (t_has12 kT x) ?_
      rw [if_pos (b2i_0.mpr q)]
      refine cI_of (c_T_refuse xs d _ h) ?_
      rfl
    · rw [c_M_fill]
      refine cI_of (m_isPerson (kM.z0 1) x) ?_
      rw [if_pos (b2i_0.mpr q)]
      refine cI_of (c_M_refuse xs d _ _) ?_
      rfl
  by_cases q2 : 0 ≤ y ∧ y ≤ 9
  rotate_left
  · refine QI.ans R 1 (-1) ?_ ?_
    · rw [c_T_fill]
      refine cI_of (t_has12 kT x) ?_
      rw [if_neg (fun z => b2i_0.mp z q)]
      refine cI_of (t_within) ?_
      rw [if_pos (b2i_0.mpr q2)]
      refine cI_of (c_T_refuse xs d _ h) ?_
      rfl
    · rw [c_M_fill]
      refine cI_of (m_isPerson (kM.z0 1) x) ?_
      rw [if_neg (fun z => b2i_0.mp z q)]
      refine cI_of (m_isFrom) ?_
      rw [if_pos (b2i_0.mpr q2)]
      refine cI_of (c_M_refuse xs d _ _) ?_
      rfl
  have kT2 : CoT 12 (setC c 6 x y) (upM h 17 x y) := kT.set (f := 6) (by omega) x y
  have kM1 : CoM c (upM (upM h 17 x y) 0 0 0) := kM.mv (by rw [up_row (by omega), up_row (by omega)])
  have kM2 : CoM (setC c 6 x y) (upM (upM (upM h 17 x y) 0 0 0) 131 (10 + 5 * x + 3) y) := kM1.set (f := 3) (by omega) (by omega)
  have nd : setC c 6 x y 0 0 = c 0 0 := if_neg (by omega)
  refine QI.mkU R k (c 6 x) 0 (g1 := upM h 17 x y) (g2 := upM (upM (upM h 17 x y) 0 0 0) 131 (10 + 5 * x + 3) y) ?_ kT2 (Keep.ow (L := [17]) (Ow.rf.up (by simp)) (by decide)) ?_ kM2 (Keep.oc (Oc.rf.up (by omega))) (fun a h1 h2 => by rw [up_row (by omega), up_row (by omega)]) (up_row (by omega)) (setC_wf w (by omega)) (by show c 1 0 ≤ 9999; exact hg) nd
  · rw [c_T_fill]
    refine cI_of (t_has12 kT x) ?_
    rw [if_neg (fun z => b2i_0.mp z q)]
    refine cI_of (t_within) ?_
    rw [if_neg (fun z => b2i_0.mp z q2), show h 17 x = c 6 x from kT.l x q.1 q.2]
    refine if_y (by omega) ?_
    refine if_y (by omega) ?_
    refine cI_of (c_T_answer xs d _ _) ?_
    rfl
  · rw [c_M_fill]
    refine cI_of (m_isPerson kM1 x) ?_
    rw [if_neg (fun z => b2i_0.mp z q)]
    refine cI_of (m_isFrom) ?_
    rw [if_neg (fun z => b2i_0.mp z q2)]
    refine cI_of (m_personOf (by omega) (by omega)) ?_
    rw [kM1.l x q.1 q.2]
    refine cI_of (v := b2i (c 6 x ≠ y)) (h := upM (upM (upM h 17 x y) 0 0 0) 131 (10 + 5 * x + 3) y) ?_ ?_
    · rw [c_M_fills]
      refine cI_of (m_personOf (by omega) (by omega)) ?_
      rw [kM1.l x q.1 q.2]
      by_cases q3 : c 6 x = y
      · rw [if_pos q3, b2i_n (fun z => z q3)]
        refine cI_of (m_personRow (by omega)) ?_
        refine if_y (by omega) ?_
        refine if_y (by omega) ?_
        rfl
      · rw [if_neg q3, b2i_y q3]
        refine cI_of (m_personRow (by omega)) ?_
        refine if_y (by omega) ?_
        refine if_y (by omega) ?_
        rfl
    · refine cI_of (c_M_gives xs d _ _) ?_
      rfl

theorem q_means (R : Rel h) (x y : Int) : QI xs d h 22 153 [mI x, mI y] := by
  obtain ⟨c, k⟩ := R.co
  have kT := k.1
  have kM := CoM.z.mp k.2.1
  have w := k.2.2.1
  have hg := k.2.2.2.1
  have hn := w.1
  by_cases q : 0 ≤ x ∧ x < c 0 0
  rotate_left
  · refine QI.ans R 1 (-1) ?_ ?_
    · rw [c_T_means]
      refine cI_of (t_has12 kT x) ?_
      rw [if_pos (b2i_0.mpr q)]
      refine cI_of (c_T_refuse xs d _ h) ?_
      rfl
    · rw [c_M_means]
      refine cI_of (m_isPerson (kM.z0 1) x) ?_
      rw [if_pos (b2i_0.mpr q)]
      refine cI_of (c_M_refuse xs d _ _) ?_
      rfl
  by_cases q2 : 0 ≤ y ∧ y ≤ 9
  rotate_left
  · refine QI.ans R 1 (-1) ?_ ?_
    · rw [c_T_means]
      refine cI_of (t_has12 kT x) ?_
      rw [if_neg (fun z => b2i_0.mp z q)]
      refine cI_of (t_within) ?_
      rw [if_pos (b2i_0.mpr q2)]
      refine cI_of (c_T_refuse xs d _ h) ?_
      rfl
    · rw [c_M_means]
      refine cI_of (m_isPerson (kM.z0 1) x) ?_
      rw [if_neg (fun z => b2i_0.mp z q)]
      refine cI_of (m_isFrom) ?_
      rw [if_pos (b2i_0.mpr q2)]
      refine cI_of (c_M_refuse xs d _ _) ?_
      rfl
  have kT2 : CoT 12 (setC c 4 x y) (upM h 15 x y) := kT.set (f := 4) (by omega) x y
  have kM1 : CoM c (upM (upM h 15 x y) 0 0 0) := kM.mv (by rw [up_row (by omega), up_row (by omega)])
  have kM2 : CoM (setC c 4 x y) (upM (upM (upM h 15 x y) 0 0 0) 131 (10 + 5 * x + 1) y) := kM1.set (f := 1) (by omega) (by omega)
  have nd : setC c 4 x y 0 0 = c 0 0 := if_neg (by omega)
  refine QI.mkU R k (c 4 x) 0 (g1 := upM h 15 x y) (g2 := upM (upM (upM h 15 x y) 0 0 0) 131 (10 + 5 * x + 1) y) ?_ kT2 (Keep.ow (L := [15]) (Ow.rf.up (by simp)) (by decide)) ?_ kM2 (Keep.oc (Oc.rf.up (by omega))) (fun a h1 h2 => by rw [up_row (by omega), up_row (by omega)]) (up_row (by omega)) (setC_wf w (by omega)) (by show c 1 0 ≤ 9999; exact hg) nd
  · rw [c_T_means]
    refine cI_of (t_has12 kT x) ?_
    rw [if_neg (fun z => b2i_0.mp z q)]
    refine cI_of (t_within) ?_
    rw [if_neg (fun z => b2i_0.mp z q2), show h 15 x = c 4 x from kT.m x q.1 q.2]
    refine if_y (by omega) ?_
    refine if_y (by omega) ?_
    refine cI_of (c_T_answer xs d _ _) ?_
    rfl
  · rw [c_M_means]
    refine cI_of (m_isPerson kM1 x) ?_
    rw [if_neg (fun z => b2i_0.mp z q)]
    refine cI_of (m_isFrom) ?_
    rw [if_neg (fun z => b2i_0.mp z q2)]
    refine cI_of (m_personOf (by omega) (by omega)) ?_
    rw [kM1.m x q.1 q.2]
    refine cI_of (m_personRow (by omega)) ?_
    refine if_y (by omega) ?_
    refine if_y (by omega) ?_
    refine cI_of (c_M_gives xs d _ _) ?_
    rfl

theorem q_move (R : Rel h) (x y : Int) : QI xs d h 23 154 [mI x, mI y] := by
  obtain ⟨c, k⟩ := R.co
  have kT := k.1
  have kM := CoM.z.mp k.2.1
  have w := k.2.2.1
  have hg := k.2.2.2.1
  have hn := w.1
  by_cases q : 0 ≤ x ∧ x < c 0 0
  rotate_left
  · refine QI.ans R 1 (-1) ?_ ?_
    · rw [c_T_move]
      refine cI_of (t_has12 kT x) ?_
      rw [if_pos (b2i_0.mpr q)]
      refine cI_of (c_T_refuse xs d _ h) ?_
      rfl
    · rw [c_M_move]
      refine cI_of (m_isPerson (kM.z0 1) x) ?_
      rw [if_pos (b2i_0.mpr q)]
      refine cI_of (c_M_refuse xs d _ _) ?_
      rfl
  by_cases q2 : 0 ≤ y ∧ y ≤ 59
  rotate_left
  · refine QI.ans R 1 (-1) ?_ ?_
    · rw [c_T_move]
      refine cI_of (t_has12 kT x) ?_
      rw [if_neg (fun z => b2i_0.mp z q)]
      refine cI_of (t_within) ?_
      rw [if_pos (b2i_0.mpr q2)]
      refine cI_of (c_T_refuse xs d _ h) ?_
      rfl
    · rw [c_M_move]
      refine cI_of (m_isPerson (kM.z0 1) x) ?_
      rw [if_neg (fun z => b2i_0.mp z q)]
      refine cI_of (m_isFrom) ?_
      rw [if_pos (b2i_0.mpr q2)]
      refine cI_of (c_M_refuse xs d _ _) ?_
      rfl
  have kT2 : CoT 12 (setC c 3 x y) (upM h 14 x y) := kT.set (f := 3) (by omega) x y
  have kM1 : CoM c (upM (upM h 14 x y) 0 0 0) := kM.mv (by rw [up_row (by omega), up_row (by omega)])
  have kM2 : CoM (setC c 3 x y) (upM (upM (upM h 14 x y) 0 0 0) 131 (10 + 5 * x + 0) y) := kM1.set (f := 0) (by omega) (by omega)
  have nd : setC c 3 x y 0 0 = c 0 0 := if_neg (by omega)
  refine QI.mkU R k (c 3 x) 0 (g1 := upM h 14 x y) (g2 := upM (upM (upM h 14 x y) 0 0 0) 131 (10 + 5 * x + 0) y) ?_ kT2 (Keep.ow (L := [14]) (Ow.rf.up (by simp)) (by decide)) ?_ kM2 (Keep.oc (Oc.rf.up (by omega))) (fun a h1 h2 => by rw [up_row (by omega), up_row (by omega)]) (up_row (by omega)) (setC_wf w (by omega)) (by show c 1 0 ≤ 9999; exact hg) nd
  · rw [c_T_move]
    refine cI_of (t_has12 kT x) ?_
    rw [if_neg (fun z => b2i_0.mp z q)]
    refine cI_of (t_within) ?_
    rw [if_neg (fun z => b2i_0.mp z q2), show h 14 x = c 3 x from kT.p x q.1 q.2]
    refine if_y (by omega) ?_
    refine if_y (by omega) ?_
    refine cI_of (c_T_answer xs d _ _) ?_
    rfl
  · rw [c_M_move]
    refine cI_of (m_isPerson kM1 x) ?_
    rw [if_neg (fun z => b2i_0.mp z q)]
    refine cI_of (m_isFrom) ?_
    rw [if_neg (fun z => b2i_0.mp z q2)]
    refine cI_of (m_personOf (by omega) (by omega)) ?_
    rw [kM1.p x q.1 q.2]
    refine cI_of (m_personRow (by omega)) ?_
    refine if_y (by omega) ?_
    refine cI_of (c_M_gives xs d _ _) ?_
    rw [Int.add_zero]

theorem q_aim (R : Rel h) (x y : Int) : QI xs d h 24 155 [mI x, mI y] := by
  obtain ⟨c, k⟩ := R.co
  have kT := k.1
  have kM := CoM.z.mp k.2.1
  have w := k.2.2.1
  have hg := k.2.2.2.1
  have hn := w.1
  by_cases q : (0 ≤ x ∧ x < c 0 0) ∧ (0 ≤ y ∧ y < c 0 0) ∧ x ≠ y
  rotate_left
  · refine QI.ans R 1 (-1) ?_ ?_
    · rw [c_T_aim]
      refine cI_of (t_isCouple kT x y) ?_
      rw [if_pos (b2i_0.mpr q)]
      refine cI_of (c_T_refuse xs d _ h) ?_
      rfl
    · rw [c_M_aim]
      refine cI_of (m_areTwo (kM.z0 1) x y) ?_
      rw [if_pos (b2i_0.mpr q)]
      refine cI_of (c_M_refuse xs d _ _) ?_
      rfl
  have e18 : h 18 x = c 7 x := kT.q x q.1.1 q.1.2
  obtain ⟨a1, a2, a3, a4, a5⟩ := w.2.2.2.2.2.2.2.2 x q.1.1 q.1.2
  by_cases q2 : c 7 x = y
  · refine QI.ans R 7 (-1) ?_ ?_
    · rw [c_T_aim]
      refine cI_of (t_isCouple kT x y) ?_
      rw [if_neg (fun z => b2i_0.mp z q), e18]
      refine if_y (by omega) ?_
      refine if_y (by omega) ?_
      refine cI_of (c_T_refuse xs d _ h) ?_
      rfl
    · rw [c_M_aim]
      refine cI_of (m_areTwo (kM.z0 7) x y) ?_
      rw [if_neg (fun z => b2i_0.mp z q)]
      refine cI_of (m_whomOf (kM.z0 7) w q.1) ?_
      refine if_y (by omega) ?_
      refine cI_of (c_M_refuse xs d _ _) ?_
      rfl
  have kT2 : CoT 12 (setC c 7 x y) (upM h 18 x y) := kT.set (f := 7) (by omega) x y
  have kM1 : CoM c (upM (upM h 18 x y) 0 0 0) := kM.mv (by rw [up_row (by omega), up_row (by omega)])
  have kM2 : CoM (setC c 7 x y) (upM (upM (upM h 18 x y) 0 0 0) 131 (10 + 5 * x + 4) y) := kM1.set (f := 4) (by omega) (by omega)
  have nd : setC c 7 x y 0 0 = c 0 0 := if_neg (by omega)
  refine QI.mkU R k (if c 7 x = -1 then c 0 0 else c 7 x) 0 (g1 := upM h 18 x y) (g2 := upM (upM (upM h 18 x y) 0 0 0) 131 (10 + 5 * x + 4) y) ?_ kT2 (Keep.ow (L := [18]) (Ow.rf.up (by simp)) (by decide)) ?_ kM2 (Keep.oc (Oc.rf.up (by omega))) (fun a h1 h2 => by rw [up_row (by omega), up_row (by omega)]) (up_row (by omega)) (setC_wf w (by omega)) (by show c 1 0 ≤ 9999; exact hg) nd
  · rw [c_T_aim]
    refine cI_of (t_isCouple kT x y) ?_
    rw [if_neg (fun z => b2i_0.mp z q), e18, show h 12 0 = c 0 0 from kT.n]
    refine if_y (by omega) ?_
    refine if_n (by omega) ?_
    refine if_y (by omega) ?_
    by_cases q3 : c 7 x = -1
    · rw [if_pos q3, if_pos q3]
      refine cI_of (c_T_answer xs d _ _) ?_
      rfl
    · rw [if_neg q3, if_neg q3]
      refine cI_of (c_T_answer xs d _ _) ?_
      rfl
  · rw [c_M_aim]
    refine cI_of (m_areTwo kM1 x y) ?_
    rw [if_neg (fun z => b2i_0.mp z q)]
    refine cI_of (m_whomOf kM1 w q.1) ?_
    refine if_n (by omega) ?_
    refine cI_of (m_personRow (by omega)) ?_
    refine if_y (by omega) ?_
    refine if_y (by omega) ?_
    rw [kM2.n, nd]
    by_cases q3 : c 7 x = -1
    · rw [if_pos q3, if_pos q3]
      refine cI_of (c_M_gives xs d _ _) ?_
      rfl
    · rw [if_neg q3, if_neg q3]
      refine cI_of (c_M_gives xs d _ _) ?_
      rfl

/-- the rules' bounds -/
def loR (x : Int) : Int := if x = 3 then 1 else if x < 5 then 0 else 1
def hiR (x : Int) : Int := if x = 1 then 16 else if x = 2 then 16 else if x = 3 then 99 else if x = 4 then 30 else if x = 5 then 20 else 9
theorem CT_rule (xs : List Int) {x : Int} (hx : 1 ≤ x ∧ x ≤ 6) : (nth (CT xs 2) x.toNat).getD 0 = loR x ∧ (nth (CT xs 3) x.toNat).getD 0 = hiR x := by
  have : x = 1 ∨ x = 2 ∨ x = 3 ∨ x = 4 ∨ x = 5 ∨ x = 6 := by omega
  rcases this with rfl | rfl | rfl | rfl | rfl | rfl <;> exact ⟨rfl, rfl⟩
def ruC (c : Kc) (x v : Int) : Kc := fun f i => if f = 2 ∧ i = x then v else c f i
theorem q_rule (R : Rel h) (x y : Int) : QI xs d h 26 157 [mI x, mI y] := by
  obtain ⟨c, k⟩ := R.co
  have kT := k.1
  have kM := CoM.z.mp k.2.1
  have w := k.2.2.1
  have hg := k.2.2.2.1
  have hn := w.1
  by_cases q : 1 ≤ x ∧ x ≤ 6
  rotate_left
  · refine QI.ans R 1 0 ?_ ?_
    · rw [c_T_rule]
      refine cI_of (t_within) ?_
      rw [if_pos (b2i_0.mpr q)]
      refine cI_of (c_T_deny xs d _ h) ?_
      refine if_y (by omega) ?_
      rfl
    · rw [c_M_rule]
      by_cases q1 : x < 1
      · rw [if_pos q1]
        refine cI_of (c_M_is xs d _ _) ?_
        refine if_y (by omega) ?_
        rfl
      · rw [if_neg q1, if_pos (by omega)]
        refine cI_of (c_M_is xs d _ _) ?_
        refine if_y (by omega) ?_
        rfl
  obtain ⟨e1, e2⟩ := CT_rule xs q
  have mL0 : ∀ g : mM, C xs d 115 0 [mI x] g = some ([mI (loR x)], g) := fun g => by
    rw [c_M_leastOf]
    unfold loR
    split
    · rfl
    · split <;> rfl
  have mH0 : ∀ g : mM, C xs d 116 0 [mI x] g = some ([mI (hiR x)], g) := fun g => by
    rw [c_M_mostOf]
    unfold hiR
    split
    · rfl
    split
    · rfl
    split
    · rfl
    split
    · rfl
    split
    · rfl
    · rfl
  by_cases q2 : loR x ≤ y ∧ y ≤ hiR x
  rotate_left
  · refine QI.ans R 1 0 ?_ ?_
    · rw [c_T_rule]
      refine cI_of (t_within) ?_
      rw [if_neg (fun z => b2i_0.mp z q), e1, e2]
      refine if_y (by omega) ?_
      refine if_y (by omega) ?_
      refine cI_of (t_within) ?_
      rw [if_pos (b2i_0.mpr q2)]
      refine cI_of (c_T_deny xs d _ h) ?_
      refine if_y (by omega) ?_
      rfl
    · rw [c_M_rule, if_neg (by omega), if_neg (by omega)]
      refine cI_of (mL0 _) ?_
      refine cI_of (mH0 _) ?_
      refine cI_of (m_isFrom) ?_
      rw [if_pos (b2i_0.mpr q2)]
      refine cI_of (c_M_is xs d _ _) ?_
      refine if_y (by omega) ?_
      rfl
  have bd : (x = 1 → 0 ≤ y ∧ y ≤ 16) ∧ (x = 2 → 0 ≤ y ∧ y ≤ 16) ∧ (x = 3 → 1 ≤ y ∧ y ≤ 99) ∧ (x = 4 → 0 ≤ y ∧ y ≤ 30) ∧ (x = 5 → 1 ≤ y ∧ y ≤ 20) ∧ (x = 6 → 1 ≤ y ∧ y ≤ 9) := by
    have : x = 1 ∨ x = 2 ∨ x = 3 ∨ x = 4 ∨ x = 5 ∨ x = 6 := by omega
    unfold loR hiR at q2
    rcases this with rfl | rfl | rfl | rfl | rfl | rfl <;> simp at q2 <;> omega
  have ee : ∀ f i, f ≠ 2 → ruC c x y f i = c f i := fun f i hf => if_neg (fun z => hf z.1)
  have kT2 : CoT 12 (ruC c x y) (upM h 13 x y) := by
    have rw_ : ∀ a, a ≠ 13 → upM h 13 x y a = h a := fun a ha => up_row ha
    unfold CoT
    rw [ee 0 0 (by omega), ee 1 0 (by omega)]
    refine ⟨by rw [rw_ 12 (by omega)]; exact kT.n, by rw [rw_ 12 (by omega)]; exact kT.g, fun i h1 h2 => ?_, fun i h1 h2 => by rw [rw_ _ (by omega), kT.p i h1 h2, ee 3 i (by omega)], fun i h1 h2 => by rw [rw_ _ (by omega), kT.m i h1 h2, ee 4 i (by omega)], fun i h1 h2 => by rw [rw_ _ (by omega), kT.w i h1 h2, ee 5 i (by omega)], fun i h1 h2 => by rw [rw_ _ (by omega), kT.l i h1 h2, ee 6 i (by omega)], fun i h1 h2 => by rw [rw_ _ (by omega), kT.q i h1 h2, ee 7 i (by omega)]⟩
    show upM h 13 x y 13 i = _
    rw [up_at]
    unfold ruC
    by_cases e : i = x
    · rw [if_pos e, if_pos ⟨rfl, e⟩]
    · rw [if_neg e, if_neg (fun z => e z.2)]
      exact kT.r i h1 h2
  have kM1 : CoM c (upM (upM h 13 x y) 0 0 0) := kM.mv (by rw [up_row (by omega), up_row (by omega)])
  have kM2 : CoM (ruC c x y) (upM (upM (upM h 13 x y) 0 0 0) 131 x y) := by
    unfold CoM
    rw [ee 0 0 (by omega), ee 1 0 (by omega)]
    refine ⟨by rw [up_at, if_neg (by omega)]; exact kM1.n, by rw [up_at, if_neg (by omega)]; exact kM1.g, fun i h1 h2 => ?_, fun i h1 h2 => by rw [up_at, if_neg (by omega), kM1.p i h1 h2, ee 3 i (by omega)], fun i h1 h2 => by rw [up_at, if_neg (by omega), kM1.m i h1 h2, ee 4 i (by omega)], fun i h1 h2 => by rw [up_at, if_neg (by omega), kM1.w i h1 h2, ee 5 i (by omega)], fun i h1 h2 => by rw [up_at, if_neg (by omega), kM1.l i h1 h2, ee 6 i (by omega)], fun i h1 h2 => by rw [up_at, if_neg (by omega), kM1.q i h1 h2, ee 7 i (by omega)]⟩
    rw [up_at]
    unfold ruC
    by_cases e : i = x
    · rw [if_pos e, if_pos ⟨rfl, e⟩]
    · rw [if_neg e, if_neg (fun z => e z.2)]
      exact kM1.r i h1 h2
  have w2 : WfC (ruC c x y) := by
    obtain ⟨hn, hg, r1, r2, r3, r4, r5, r6, hw⟩ := w
    have er : ∀ i, ruC c x y 2 i = if i = x then y else c 2 i := fun i => by
      unfold ruC
      by_cases e : i = x
      · rw [if_pos e, if_pos ⟨rfl, e⟩]
      · rw [if_neg e, if_neg (fun z => e z.2)]
    unfold WfC WfP
    simp only [ee 0 _ (by omega), ee 1 _ (by omega), ee 3 _ (by omega), ee 4 _ (by omega), ee 5 _ (by omega), ee 6 _ (by omega), ee 7 _ (by omega), er]
    refine ⟨hn, hg, ?_, ?_, ?_, ?_, ?_, ?_, hw⟩
    · split <;> omega
    · split <;> omega
    · split <;> omega
    · split <;> omega
    · split <;> omega
    · split <;> omega
  refine QI.mkU R k 1 0 (g1 := upM h 13 x y) (g2 := upM (upM (upM h 13 x y) 0 0 0) 131 x y) ?_ kT2 (Keep.ow (L := [13]) (Ow.rf.up (by simp)) (by decide)) ?_ kM2 (Keep.oc (Oc.rf.up (by omega))) (fun a h1 h2 => by rw [up_row (by omega), up_row (by omega)]) (up_row (by omega)) w2 (by rw [ee 1 0 (by omega)]; exact hg) (ee 0 0 (by omega))
  · rw [c_T_rule]
    refine cI_of (t_within) ?_
    rw [if_neg (fun z => b2i_0.mp z q), e1, e2]
    refine if_y (by omega) ?_
    refine if_y (by omega) ?_
    refine cI_of (t_within) ?_
    rw [if_neg (fun z => b2i_0.mp z q2)]
    refine if_y (by omega) ?_
    refine cI_of (c_T_grant xs d _) ?_
    refine if_y (by omega) ?_
    rfl
  · rw [c_M_rule, if_neg (by omega), if_neg (by omega)]
    refine cI_of (mL0 _) ?_
    refine cI_of (mH0 _) ?_
    refine cI_of (m_isFrom) ?_
    rw [if_neg (fun z => b2i_0.mp z q2)]
    refine if_y (by omega) ?_
    refine cI_of (c_M_is xs d _ _) ?_
    refine if_y (by omega) ?_
    rfl
end
