/-! EQUIV 39: live, lived, mean -/
theorem Rel.u150 {H h' : mM} (R : Rel H) (e : ∀ a, a ≠ 150 → h' a = H a) (hi : ∀ j, inI (h' 150 j)) : Rel h' := by
  obtain ⟨R1, R2, R3, R4, R5, ⟨c, k⟩, R7, R8, R9⟩ := R
  refine ⟨?_, ?_, ?_, ?_, ?_, ⟨c, k.mv (fun a h1 h2 => e a (by omega)) (fun a h1 h2 => e a (by omega)) (fun j _ _ => by rw [e 131 (by omega)]) (e 132 (by omega))⟩, ?_, ?_, ?_, hi⟩
  · rw [e 0 (by omega), e 130 (by omega)]; exact R1
  · rw [e 0 (by omega), e 130 (by omega)]; exact R2
  · intro t ht
    rw [e 7 (by omega), e 8 (by omega), e 133 (by omega), e 134 (by omega), e 135 (by omega), e (3 + t) (by omega)]
    exact R3 t ht
  · rw [e 9 (by omega), e 10 (by omega), e 136 (by omega), e 130 (by omega)]; exact R4
  · rw [e 9 (by omega), e 130 (by omega)]; exact R5
  · rw [e 56 (by omega), e 130 (by omega)]
    refine ⟨R7.1, R7.2.1, fun j hj => ?_⟩
    obtain ⟨cj, kj⟩ := R7.2.2 j hj
    have := R7.2.1
    exact ⟨cj, kj.mv (fun a h1 h2 => e a (by omega)) (fun a h1 h2 => e a (by omega)) (fun i _ _ => by rw [e 131 (by omega)]) (e 132 (by omega))⟩
  · rw [e 0 (by omega), e 130 (by omega), e 107 (by omega), e 152 (by omega)]; exact R8
  · rw [e 11 (by omega)]; exact R9.1
/-- the loops' cells as they were -/
def rs150 (F h : mM) : mM := fun a => if a = 150 then h 150 else F a
theorem rs150_ne {F h : mM} {a : Nat} (ha : a ≠ 150) : rs150 F h a = F a := if_neg ha
theorem rs150_eq {F h : mM} : rs150 F h 150 = h 150 := if_pos rfl
section
variable {xs : List Int} {d : Nat} {h : mM}
theorem Rel.tellF {c : Kc} (R : Rel h) (k0 : SlotR 12 30 c h 0 0) (t b : Int) {g1 g2 : mM} (k1 : CoT 12 c g1) (o1 : Keep h g1) (k2 : CoM c g2) (o2 : Keep (upM (upM (upM g1 0 1 t) 0 2 b) 0 0 0) g2) (o3 : ∀ a, 12 ≤ a → a ≤ 18 → g2 a = g1 a) (o4 : g2 0 = upM (upM (upM g1 0 1 t) 0 2 b) 0 0 0 0) : Rel (upM (upM (upM g2 130 3 t) 130 4 b) 130 2 0) := by
  generalize hF : upM (upM (upM g2 130 3 t) 130 4 b) 130 2 0 = F
  have f130 : ∀ k, k ≠ 2 → k ≠ 3 → k ≠ 4 → F 130 k = g2 130 k := fun k z1 z2 z3 => by rw [← hF, up_at, if_neg z1, up_at, if_neg z3, up_at, if_neg z2]
  have f0 : ∀ k, k ≠ 1 → k ≠ 2 → k ≠ 0 → F 0 k = h 0 k := fun k z1 z2 z3 => by
    rw [← hF, up_row (by omega), up_row (by omega), up_row (by omega), o4, up_at, if_neg z3, up_at, if_neg z2, up_at, if_neg z1, o1.2.1 k z3]
  have fr : ∀ a, a ≠ 130 → F a = g2 a := fun a z => by rw [← hF, up_row z, up_row z, up_row z]
  have f00 : F 0 0 = 0 := by rw [fr 0 (by omega), o4, up_eq]
  have f132 : F 130 2 = 0 := by rw [← hF, up_eq]
  have f01 : F 0 1 = t := by rw [fr 0 (by omega), o4, up_at, if_neg (by omega), up_at, if_neg (by omega), up_eq]
  have f02 : F 0 2 = b := by rw [fr 0 (by omega), o4, up_at, if_neg (by omega), up_eq]
  have f3 : F 130 3 = t := by rw [← hF, up_at, if_neg (by omega), up_at, if_neg (by omega), up_eq]
  have f4 : F 130 4 = b := by rw [← hF, up_at, if_neg (by omega), up_eq]
  have hk : ∀ a, keptL.elem a = true → F a = h a := fun a z => by
    have n0 : a ≠ 0 := fun e => by subst e; exact absurd z (by decide)
    have n1 : a ≠ 130 := fun e => by subst e; exact absurd z (by decide)
    rw [fr a n1, o2.1 a z, up_row n0, up_row n0, up_row n0, o1.1 a z]
  generalize hH : upM (upM (upM (upM F 0 1 (h 0 1)) 0 2 (h 0 2)) 130 3 (h 130 3)) 130 4 (h 130 4) = H
  have hr : ∀ a, a ≠ 0 → a ≠ 130 → H a = F a := fun a z1 z2 => by rw [← hH, up_row z2, up_row z2, up_row z1, up_row z1]
  have h0 : ∀ k, k ≠ 1 → k ≠ 2 → H 0 k = F 0 k := fun k z1 z2 => by rw [← hH, up_row (by omega), up_row (by omega), up_at, if_neg z2, up_at, if_neg z1]
  have h1 : ∀ k, k ≠ 3 → k ≠ 4 → H 130 k = F 130 k := fun k z1 z2 => by rw [← hH, up_at, if_neg z2, up_at, if_neg z1, up_row (by omega), up_row (by omega)]
  have h01 : H 0 1 = h 0 1 := by rw [← hH, up_row (by omega), up_row (by omega), up_at, if_neg (by omega), up_eq]
  have h02 : H 0 2 = h 0 2 := by rw [← hH, up_row (by omega), up_row (by omega), up_eq]
  have h3 : H 130 3 = h 130 3 := by rw [← hH, up_at, if_neg (by omega), up_eq]
  have h4 : H 130 4 = h 130 4 := by rw [← hH, up_eq]
  have RH : Rel H := by
    refine R.upd k0 (c' := c) (k1.mv (fun a z1 z2 => ?_)) (k2.mv ?_) k0.2.2.1 k0.2.2.2.1 rfl ⟨fun a z => ?_, fun k z => ?_, fun k z => ?_, fun k z => ?_⟩ ?_
    · rw [hr a (by omega) (by omega), fr a (by omega), o3 a z1 (by omega)]
    · rw [hr 131 (by omega) (by omega), fr 131 (by omega)]
    · have n0 : a ≠ 0 := fun e => by subst e; exact absurd z (by decide)
      have n1 : a ≠ 130 := fun e => by subst e; exact absurd z (by decide)
      rw [hr a n0 n1, hk a z]
    · by_cases e1 : k = 1
      · subst e1; exact h01
      by_cases e2 : k = 2
      · subst e2; exact h02
      rw [h0 k e1 e2, f0 k e1 e2 z]
    · by_cases e1 : k = 3
      · subst e1; exact h3
      by_cases e2 : k = 4
      · subst e2; exact h4
      rw [h1 k e1 e2, f130 k (by omega) e1 e2, o2.2.2.1 k z, up_row (by omega), up_row (by omega), up_row (by omega), o1.2.2.1 k z]
    · rw [hr 131 (by omega) (by omega), fr 131 (by omega), o2.2.2.2 k z, up_row (by omega), up_row (by omega), up_row (by omega), o1.2.2.2 k z]
    · rw [h0 0 (by omega) (by omega), h1 2 (by omega) (by omega), f00, f132]
  exact RH.tell (fun a z1 z2 => (hr a z1 z2).symm) (fun k z1 z2 => (h0 k z1 z2).symm) (fun k z1 z2 => (h1 k z1 z2).symm) ⟨by rw [f01, f3], by rw [f02, f4]⟩
theorem q_lived (R : Rel h) (x : Int) : QI xs d h 63 220 [mI x] := by
  obtain ⟨r1, r2, r3, r4⟩ := R.2.2.2.2.2.2.2.1
  by_cases q : 0 ≤ x ∧ x ≤ 4
  rotate_left
  · refine QI.ans R 1 (-1) ?_ ?_
    · rw [c_T_lived]
      refine cI_of (t_within) ?_
      rw [if_pos (b2i_0.mpr q)]
      refine cI_of (c_T_refuse xs d _ h) ?_
      rfl
    · rw [c_M_lived]
      by_cases z : x < 0
      · rw [if_pos z]
        refine cI_of (c_M_refuse xs d _ _) ?_
        rfl
      · rw [if_neg z, if_pos (by omega)]
        refine cI_of (c_M_refuse xs d _ _) ?_
        rfl
  by_cases e : h 0 3 = 0
  · refine QI.ans R 6 (-1) ?_ ?_
    · rw [c_T_lived]
      refine cI_of (t_within) ?_
      rw [if_neg (fun z => b2i_0.mp z q), if_pos e]
      refine cI_of (c_T_refuse xs d _ h) ?_
      rfl
    · rw [c_M_lived, if_neg (by omega), if_neg (by omega), up_ne (by omega), ← r1, if_pos e]
      refine cI_of (c_M_refuse xs d _ _) ?_
      rfl
  have told := r4 (by omega)
  have m : ∀ v, h 152 x = v → C xs d 220 0 [mR 130, mI x] (upM h 0 0 0) = some ([mI v], upM (upM h 0 0 0) 130 2 0) := fun v hv => by
    rw [c_M_lived, if_neg (by omega), if_neg (by omega), up_ne (by omega), ← r1, if_neg e]
    refine if_y (by omega) ?_
    rw [up_ne (by omega), hv]
    refine cI_of (c_M_gives xs d _ _) ?_
    rfl
  have pre : ∀ o, (if x = 0 then cI (C xs d 67 0 [mR 0, mI (h 107 3)] h) (fun v7 h7 => some ([mI v7], h7)) else (if x = 1 then cI (C xs d 67 0 [mR 0, mI (h 107 4)] h) (fun v6 h6 => some ([mI v6], h6)) else (if x = 2 then cI (C xs d 67 0 [mR 0, mI (h 107 5)] h) (fun v5 h5 => some ([mI v5], h5)) else (if x = 3 then cI (C xs d 67 0 [mR 0, mI (h 107 6)] h) (fun v4 h4 => some ([mI v4], h4)) else (if (h 107 7) = (0 : Int) then cI (C xs d 67 0 [mR 0, mI 0] h) (fun v2 h2 => some ([mI v2], h2)) else cI (C xs d 67 0 [mR 0, mI 1] h) (fun v3 h3 => some ([mI v3], h3))))))) = o → C xs d 63 0 [mR 0, mI x] h = o := fun o ho => by
    rw [c_T_lived]
    refine cI_of (t_within) ?_
    rw [if_neg (fun z => b2i_0.mp z q), if_neg e]
    exact ho
  have xx : x = 0 ∨ x = 1 ∨ x = 2 ∨ x = 3 ∨ x = 4 := by omega
  rcases xx with rfl | rfl | rfl | rfl | rfl
  · refine QI.ans R 0 (h 107 3) (pre _ ?_) (m _ told.1.symm)
    rw [if_pos rfl]
    refine cI_of (c_T_answer xs d _ _) ?_
    rfl
  · refine QI.ans R 0 (h 107 4) (pre _ ?_) (m _ told.2.1.symm)
    rw [if_neg (by decide), if_pos rfl]
    refine cI_of (c_T_answer xs d _ _) ?_
    rfl
  · refine QI.ans R 0 (h 107 5) (pre _ ?_) (m _ told.2.2.1.symm)
    rw [if_neg (by decide), if_neg (by decide), if_pos rfl]
    refine cI_of (c_T_answer xs d _ _) ?_
    rfl
  · refine QI.ans R 0 (h 107 6) (pre _ ?_) (m _ told.2.2.2.1.symm)
    rw [if_neg (by decide), if_neg (by decide), if_neg (by decide), if_pos rfl]
    refine cI_of (c_T_answer xs d _ _) ?_
    rfl
  · refine QI.ans R 0 (h 107 7) (pre _ ?_) (m _ told.2.2.2.2.symm)
    rw [if_neg (by decide), if_neg (by decide), if_neg (by decide), if_neg (by decide)]
    rcases r3 with z | z
    · rw [if_pos z, z]
      refine cI_of (c_T_answer xs d _ _) ?_
      rfl
    · rw [if_neg (by omega), z]
      refine cI_of (c_T_answer xs d _ _) ?_
      rfl
/-- both live through the times that are there -/
theorem lives_sim {b0 b1 : Nat} (hb : okB b0 b1) {c : Kc} {gT gM : mM} (k1 : CoT b1 c gT) (k2 : CoM c gM) (w : WfC c) (hg : c 1 0 ≤ 9999) (T : TiR 30 (c 0 0) gT (fun j => gM 131 (0 + j))) (th : gT 30 8 = 1) (h150 : ∀ j, inI (gM 150 j)) {seed : Int} (hs : 0 ≤ seed ∧ seed ≤ 20000) : ∃ gT' gM' c', C xs d 270 0 [mR b0, mR b1, mR 30, mI seed] gT = some ([], gT') ∧ C xs d 218 0 [mR 130, mI seed] gM = some ([], gM') ∧ FiL b0 b1 c' (c 0 0) gT gM gT' gM' := by
  obtain ⟨t1, t2, t3, t4, t5⟩ := T
  obtain ⟨t6, t7⟩ := t5 th
  rw [if_pos th] at t2
  dsimp only at t2 t6
  rw [Int.zero_add] at t2
  have TM : TmR (gT 30 6) (c 0 0) gT gM := ⟨t3, rfl, t2, fun r h1 h2 => by
    have := t6 r h1 h2
    rw [Int.zero_add, Int.zero_add, Int.zero_add, Int.zero_add, Int.zero_add] at this
    exact this, t7⟩
  generalize hgA : upM (upM (upM (upM (upM (upM (upM gT b0 1 seed) b0 2 0) b0 3 0) b0 4 0) b0 5 0) b0 6 0) b0 7 0 = gA
  have gAr : ∀ a, a ≠ b0 → gA a = gT a := fun a ha => by rw [← hgA, up_row ha, up_row ha, up_row ha, up_row ha, up_row ha, up_row ha, up_row ha]
  have gA0 : gA b0 1 = seed ∧ gA b0 2 = 0 ∧ gA b0 3 = 0 ∧ gA b0 4 = 0 ∧ gA b0 5 = 0 ∧ gA b0 6 = 0 ∧ gA b0 7 = 0 := by
    rw [← hgA]
    refine ⟨?_, ?_, ?_, ?_, ?_, ?_, up_eq⟩ <;> simp [up_at]
  have key : ∀ (m i : Nat) (k : mM), i + m = 5 → (∀ a, a ≠ 130 → a ≠ 151 → k a = gM a) → (∀ j, j ≠ 39 → j ≠ 40 → k 130 j = gM 130 j) → k 130 39 = seed → k 130 40 = 0 → (∀ j, 0 ≤ j → j < (i : Int) → k 151 j = 0) → ∃ mA, X xs d k_M_lives 8 [mR 130, mI seed, mI (i : Int), mC 0] [] k = X xs d k_M_lives 20 [mR 130, mI seed, mI 0, mC 0] [] mA ∧ (∀ a, a ≠ 130 → a ≠ 151 → mA a = gM a) ∧ (∀ j, j ≠ 39 → j ≠ 40 → mA 130 j = gM 130 j) ∧ mA 130 39 = seed ∧ mA 130 40 = 0 ∧ ∀ j, 0 ≤ j → j < 5 → mA 151 j = 0 := by
    intro m
    induction m with
    | zero =>
      intro i k hi e1 e2 e3 e4 e5
      obtain rfl : i = 5 := by omega
      refine ⟨k, ?_, e1, e2, e3, e4, e5⟩
      rw [e_M_lives_8]
      refine if_n (by omega) ?_
      rfl
    | succ m ih =>
      intro i k hi e1 e2 e3 e4 e5
      obtain ⟨mA, r1, r2⟩ := ih (i + 1) (upM k 151 (i : Int) 0) (by omega) (fun a a1 a2 => by rw [up_row a2]; exact e1 a a1 a2) (fun j j1 j2 => by rw [up_ne (by omega)]; exact e2 j j1 j2) (by rw [up_ne (by omega)]; exact e3) (by rw [up_ne (by omega)]; exact e4) (fun j j1 j2 => by
        rw [up_at]
        by_cases z : j = (i : Int)
        · rw [if_pos z]
        · rw [if_neg z]; exact e5 j j1 (by omega))
      refine ⟨mA, ?_, r2⟩
      rw [e_M_lives_8]
      refine if_y (by omega) ?_
      refine if_y (by omega) ?_
      refine if_y (by omega) ?_
      exact r1
  obtain ⟨mA, r1, r2, r3, r4, r5, r6⟩ := key 5 0 (upM (upM gM 130 39 seed) 130 40 0) rfl (fun a a1 a2 => by rw [up_row a1, up_row a1]) (fun j j1 j2 => by rw [up_at, if_neg j2, up_at, if_neg j1]) (by rw [up_at, if_neg (by omega), up_eq]) up_eq (fun j j1 j2 => by omega)
  have LA : LvR b0 b1 c 0 0 (21 * 0) gA mA := by
    obtain ⟨q1, q2, q3, q4, q5, q6, q7⟩ := gA0
    have z0 := r6 0 (by omega) (by omega)
    have z1 := r6 1 (by omega) (by omega)
    have z2 := r6 2 (by omega) (by omega)
    have z3 := r6 3 (by omega) (by omega)
    have z4 := r6 4 (by omega) (by omega)
    refine ⟨⟨k1.mv (fun a h1 h2 => gAr a (by omega)), k2.mv (r2 131 (by omega) (by omega)), w, hg⟩, ⟨by rw [q1, r4], by omega, by omega⟩, ⟨q2, r5⟩, ⟨by omega, by omega, by omega, by omega⟩, ⟨q7, z4⟩, by omega, by omega, by omega, by omega⟩
  have MA : TmR (gT 30 6) (c 0 0) gA mA := TM.mv (fun a h1 h2 => gAr a (by omega)) (fun j _ => by rw [r2 131 (by omega) (by omega)])
  have hz : (0 : Int) = gT 30 6 ∨ gA 31 0 ≠ 22 := by
    by_cases z : gT 30 6 = 0
    · exact Or.inl z.symm
    · refine Or.inr (fun y => ?_)
      have := (MA.2.2.2.2 0 (by omega) (by omega)).2.1 y
      omega
  obtain ⟨gT', gM', c', s1, s2, s3⟩ := p_lives (xs := xs) (d := d) hb seed seed 300 0 0 0 c gA mA (mC 0) (by omega) (by omega) LA rfl MA (fun j => by rw [r2 150 (by omega) (by omega)]; exact h150 j) (by omega) (fun o h1 h2 => by omega) hz (by omega)
  obtain ⟨w1, w2, w3, w4, w5, w6, w7, w8⟩ := s3
  refine ⟨gT', gM', c', ?_, ?_, w1, w2, w3, w4, w5, fun a ha => by rw [w6 a ha, gAr a (fun e => ha (by rw [e]; simp))], ?_, w8⟩
  · rw [c_Li_runThrough xs d hb, hgA]
    exact s1
  · rw [c_M_lives]
    exact r1.trans s2
  · exact ⟨fun a a1 a2 a3 a4 a5 => by rw [w7.1 a a1 a2 a3 a4 a5, r2 a a1 a5], fun j j1 j2 => by rw [w7.2.1 j j1 j2, r3 j j1 j2], fun j hj => by rw [w7.2.2 j hj, r2 131 (by omega) (by omega)]⟩
end
