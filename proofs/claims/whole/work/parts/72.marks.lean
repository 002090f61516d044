/-! EQUIV 42: mark and undo -/
section
variable {xs : List Int} {d : Nat} {h g : mM}
/-- one slot of the reference comes to another -/
abbrev slM (g : mM) (a b : Int) : mM := rowW (rowW g 131 (414 * b) 414 (fun k => g 131 (414 * a + (k - 414 * b)))) 132 (7 * b) 7 (fun k => g 132 (7 * a + (k - 7 * b)))
theorem m_copies {a b : Int} (ha : 0 ≤ a ∧ a ≤ 3) (hb : 0 ≤ b ∧ b ≤ 3) (hn : a ≠ b) : C xs d 222 0 [mR 130, mI a, mI b] g = some ([], slM g a b) := by
  rw [c_M_copies]
  have st : ∀ i : Nat, i < 414 → X xs d k_M_copies 2 [mR 130, mI a, mI b, mI (i : Int)] [] (rowW g 131 (414 * b) (i : Int) (fun k => g 131 (414 * a + (k - 414 * b)))) = X xs d k_M_copies 2 [mR 130, mI a, mI b, mI ((i + 1 : Nat) : Int)] [] (rowW g 131 (414 * b) ((i + 1 : Nat) : Int) (fun k => g 131 (414 * a + (k - 414 * b)))) := by
    intro i hi
    rw [e_M_copies_2]
    refine if_y (by omega) ?_
    refine if_y (by omega) ?_
    refine if_y (by omega) ?_
    refine if_y (by omega) ?_
    refine if_y (by omega) ?_
    refine if_y (by omega) ?_
    refine if_y (by omega) ?_
    refine if_y (by omega) ?_
    rw [rowW_out (by omega), rowW_up (by omega) (by rw [show 414 * b + (i : Int) - 414 * b = (i : Int) by omega])]
    rfl
  have r1 := run_to (fun i : Nat => X xs d k_M_copies 2 [mR 130, mI a, mI b, mI (i : Int)] [] (rowW g 131 (414 * b) (i : Int) (fun k => g 131 (414 * a + (k - 414 * b))))) st
  have r0 : X xs d k_M_copies 2 [mR 130, mI a, mI b, mI 0] [] g = X xs d k_M_copies 2 [mR 130, mI a, mI b, mI ((0 : Nat) : Int)] [] (rowW g 131 (414 * b) ((0 : Nat) : Int) (fun k => g 131 (414 * a + (k - 414 * b)))) := by
    rw [show ((0 : Nat) : Int) = 0 from rfl, rowW_0]
  rw [r0]
  refine r1.trans ?_
  rw [e_M_copies_2]
  refine if_n (by omega) ?_
  generalize hk : rowW g 131 (414 * b) ((414 : Nat) : Int) (fun k => g 131 (414 * a + (k - 414 * b))) = k
  have k132 : k 132 = g 132 := by rw [← hk, rowW_ne (by omega)]
  have st2 : ∀ i : Nat, i < 7 → X xs d k_M_copies 25 [mR 130, mI a, mI b, mI (i : Int)] [] (rowW k 132 (7 * b) (i : Int) (fun j => g 132 (7 * a + (j - 7 * b)))) = X xs d k_M_copies 25 [mR 130, mI a, mI b, mI ((i + 1 : Nat) : Int)] [] (rowW k 132 (7 * b) ((i + 1 : Nat) : Int) (fun j => g 132 (7 * a + (j - 7 * b)))) := by
    intro i hi
    rw [e_M_copies_25]
    refine if_y (by omega) ?_
    refine if_y (by omega) ?_
    refine if_y (by omega) ?_
    refine if_y (by omega) ?_
    refine if_y (by omega) ?_
    refine if_y (by omega) ?_
    refine if_y (by omega) ?_
    refine if_y (by omega) ?_
    rw [rowW_out (by omega), k132, rowW_up (by omega) (by rw [show 7 * b + (i : Int) - 7 * b = (i : Int) by omega])]
    rfl
  have r2 := run_to (fun i : Nat => X xs d k_M_copies 25 [mR 130, mI a, mI b, mI (i : Int)] [] (rowW k 132 (7 * b) (i : Int) (fun j => g 132 (7 * a + (j - 7 * b))))) st2
  have r3 : X xs d k_M_copies 25 [mR 130, mI a, mI b, mI 0] [] k = X xs d k_M_copies 25 [mR 130, mI a, mI b, mI ((0 : Nat) : Int)] [] (rowW k 132 (7 * b) ((0 : Nat) : Int) (fun j => g 132 (7 * a + (j - 7 * b)))) := by
    rw [show ((0 : Nat) : Int) = 0 from rfl, rowW_0]
  rw [r3]
  refine r2.trans ?_
  rw [e_M_copies_25]
  refine if_n (by omega) ?_
  rw [← hk]
  rfl
theorem slM_r {a b : Int} {x : Nat} (h1 : x ≠ 131) (h2 : x ≠ 132) : slM g a b x = g x := by rw [slM, rowW_ne h2, rowW_ne h1]
theorem slM_131 {a b j : Int} : slM g a b 131 j = if 414 * b ≤ j ∧ j < 414 * b + 414 then g 131 (414 * a + (j - 414 * b)) else g 131 j := by
  rw [slM, rowW_ne (by omega)]
  by_cases z : 414 * b ≤ j ∧ j < 414 * b + 414
  · rw [rowW_in z, if_pos z]
  · rw [rowW_out z, if_neg z]
theorem slM_132 {a b j : Int} : slM g a b 132 j = if 7 * b ≤ j ∧ j < 7 * b + 7 then g 132 (7 * a + (j - 7 * b)) else g 132 j := by
  rw [slM]
  by_cases z : 7 * b ≤ j ∧ j < 7 * b + 7
  · rw [rowW_in z, if_pos z]
  · rw [rowW_out z, if_neg z, rowW_ne (by omega)]
/-- the times of the class come to another place -/
theorem t_tiTake {b0 b1 : Nat} (hb : (b0 = 30 ∧ b1 = 68) ∨ (b0 = 30 ∧ b1 = 84) ∨ (b0 = 30 ∧ b1 = 100) ∨ (b0 = 68 ∧ b1 = 30) ∨ (b0 = 84 ∧ b1 = 30) ∨ (b0 = 100 ∧ b1 = 30)) {n : Int} {s : Int → Int} (T : TiR b1 n g s) : ∃ g', C xs d 322 0 [mR b0, mR b1] g = some ([], g') ∧ TiR b0 n g' s ∧ Ow [b0, b0 + 1, b0 + 2, b0 + 3, b0 + 4, b0 + 5, b0 + 6] g g' := by
  obtain ⟨t1, t2, t3, t4, t5⟩ := T
  generalize hk : mCpy (mCpy (mCpy (mCpy (mCpy (mCpy g (b1 + 1) 0 (b0 + 1) 0 (g b1 6)) (b1 + 2) 0 (b0 + 2) 0 (g b1 6)) (b1 + 3) 0 (b0 + 3) 0 (g b1 6)) (b1 + 4) 0 (b0 + 4) 0 (g b1 6)) (b1 + 5) 0 (b0 + 5) 0 (g b1 6)) (b1 + 6) 0 (b0 + 6) 0 (g b1 6) = k
  have far : b1 + 6 < b0 ∨ b0 + 6 < b1 := by omega
  have kr : ∀ a, (a < b0 + 1 ∨ b0 + 6 < a) → k a = g a := fun a ha => by
    rw [← hk, cpy_row (by omega), cpy_row (by omega), cpy_row (by omega), cpy_row (by omega), cpy_row (by omega), cpy_row (by omega)]
  have kc : ∀ e, 1 ≤ e → e ≤ 6 → ∀ r, 0 ≤ r → r < g b1 6 → k (b0 + e) r = g (b1 + e) r := fun e h1 h2 r h3 h4 => by
    rw [← hk]
    have : e = 1 ∨ e = 2 ∨ e = 3 ∨ e = 4 ∨ e = 5 ∨ e = 6 := by omega
    rcases this with rfl | rfl | rfl | rfl | rfl | rfl
    · rw [cpy_row (by omega), cpy_row (by omega), cpy_row (by omega), cpy_row (by omega), cpy_row (by omega), cpy_in ⟨h3, h4⟩]
    · rw [cpy_row (by omega), cpy_row (by omega), cpy_row (by omega), cpy_row (by omega), cpy_in ⟨h3, h4⟩, cpy_row (by omega)]
    · rw [cpy_row (by omega), cpy_row (by omega), cpy_row (by omega), cpy_in ⟨h3, h4⟩, cpy_row (by omega), cpy_row (by omega)]
    · rw [cpy_row (by omega), cpy_row (by omega), cpy_in ⟨h3, h4⟩, cpy_row (by omega), cpy_row (by omega), cpy_row (by omega)]
    · rw [cpy_row (by omega), cpy_in ⟨h3, h4⟩, cpy_row (by omega), cpy_row (by omega), cpy_row (by omega), cpy_row (by omega)]
    · rw [cpy_in ⟨h3, h4⟩, cpy_row (by omega), cpy_row (by omega), cpy_row (by omega), cpy_row (by omega), cpy_row (by omega)]
  generalize hf : upM (upM (upM k b0 6 (g b1 6)) b0 7 (g b1 7)) b0 8 (g b1 8) = f
  have f8 : f b0 8 = g b1 8 := by rw [← hf, up_eq]
  have f7 : f b0 7 = g b1 7 := by rw [← hf, up_at, if_neg (by omega), up_eq]
  have f6 : f b0 6 = g b1 6 := by rw [← hf, up_at, if_neg (by omega), up_at, if_neg (by omega), up_eq]
  have fr : ∀ a, a ≠ b0 → f a = k a := fun a ha => by rw [← hf, up_row ha, up_row ha, up_row ha]
  have fc : ∀ e, 1 ≤ e → e ≤ 6 → ∀ r, 0 ≤ r → r < g b1 6 → f (b0 + e) r = g (b1 + e) r := fun e h1 h2 r h3 h4 => by rw [fr (b0 + e) (by omega)]; exact kc e h1 h2 r h3 h4
  refine ⟨f, ?_, ?_, fun a ha => ?_⟩
  · rw [c_Ti_takeFrom xs d (by omega)]
    refine if_y (by omega) ?_
    refine if_y (by omega) ?_
    refine if_y (by omega) ?_
    refine if_y (by omega) ?_
    refine if_y (by omega) ?_
    refine if_y (by omega) ?_
    refine if_y (by omega) ?_
    rw [hk, hf]
  · unfold TiR
    rw [f8, f7, f6]
    refine ⟨t1, t2, t3, t4, fun z => ⟨fun r h1 h2 => ?_, fun r h1 h2 => ?_⟩⟩
    · rw [fc 1 (by omega) (by omega) r h1 h2, fc 2 (by omega) (by omega) r h1 h2, fc 3 (by omega) (by omega) r h1 h2, fc 4 (by omega) (by omega) r h1 h2, fc 5 (by omega) (by omega) r h1 h2, fc 6 (by omega) (by omega) r h1 h2]
      exact (t5 z).1 r h1 h2
    · have e1 := fc 1 (by omega) (by omega)
      have e6 := fc 6 (by omega) (by omega)
      obtain ⟨j1, j2, j3⟩ := (t5 z).2 r h1 h2
      rw [e1 r h1 h2, e6 r h1 h2]
      refine ⟨fun y => ?_, fun y => ?_, fun o a b z1 z2 z3 => ?_⟩
      · obtain ⟨u1, u2, u3, u4⟩ := j1 y
        rw [e1 _ (by omega) u2, e6 _ (by omega) u2]
        exact ⟨u1, u2, u3, u4⟩
      · obtain ⟨u1, u2, u3, u4⟩ := j2 y
        rw [e1 _ u1 (by omega), e6 _ u1 (by omega)]
        exact ⟨u1, u2, u3, u4⟩
      · rw [e1 o a (by omega)] at z1
        rw [e6 o a (by omega)] at z2 ⊢
        exact j3 o a b z1 z2 z3
  · simp only [List.mem_cons, List.not_mem_nil, or_false] at ha
    rw [fr a (by omega), kr a (by omega)]
/-- a slot, moved -/
theorem SlotR.cp {bc bt bc' bt' : Nat} {c : Kc} {h' : mM} {s sn s' sn' : Int} (k : SlotR bc bt c h s sn) (kT : CoT bc' c h') (nT : ∀ p, 0 ≤ p → p < c 0 0 → h' (bc' + 7) p = h (bc + 7) p) (tT : TiR bt' (c 0 0) h' (fun j => h 131 (s + j))) (e1 : ∀ j, 0 ≤ j → j < 414 → h' 131 (s' + j) = h 131 (s + j)) (e2 : ∀ j, 0 ≤ j → j < 7 → h' 132 (sn' + j) = h 132 (sn + j)) : SlotR bc' bt' c h' s' sn' := by
  obtain ⟨k1, k2, k3, k4, k5, k6⟩ := k
  have hn := k3.1
  refine ⟨kT, ?_, k3, k4, k5.mv nT (fun p a b => e2 p a (by omega)), tT.mv (fun _ _ _ => rfl) (fun j hj => e1 j (by omega) (by omega))⟩
  obtain ⟨m1, m2, m3, m4, m5, m6, m7, m8⟩ := k2
  exact ⟨(e1 _ (by omega) (by omega)).trans m1, (e1 _ (by omega) (by omega)).trans m2, fun i a b => (e1 _ (by omega) (by omega)).trans (m3 i a b), fun i a b => (e1 _ (by omega) (by omega)).trans (m4 i a b), fun i a b => (e1 _ (by omega) (by omega)).trans (m5 i a b), fun i a b => (e1 _ (by omega) (by omega)).trans (m6 i a b), fun i a b => (e1 _ (by omega) (by omega)).trans (m7 i a b), fun i a b => (e1 _ (by omega) (by omega)).trans (m8 i a b)⟩
theorem coL_ne {b a : Nat} (h : a < b ∨ b + 8 < a) : a ∉ coL b := by
  simp only [coL, List.mem_cons, List.not_mem_nil, or_false]
  omega
theorem tiL_ne {b a : Nat} (h : a < b ∨ b + 6 < a) : a ∉ [b, b + 1, b + 2, b + 3, b + 4, b + 5, b + 6] := by
  simp only [List.mem_cons, List.not_mem_nil, or_false]
  omega
theorem q_mark (R : Rel h) : QI xs d h 65 223 [] := by
  obtain ⟨c, k⟩ := R.co
  obtain ⟨R1, R2, R3, R4, R5, R6, R7, R8, R9⟩ := id R
  obtain ⟨v1, v2, v3⟩ := R7
  by_cases full : h 56 2 = 3
  · refine QI.ans R 4 (-1) ?_ ?_
    · rw [c_T_mark]
      refine cI_of (v := 1) (h := h) ?_ ?_
      · rw [c_Mk_isFull, if_neg (by omega)]
      rw [if_neg (by decide)]
      refine cI_of (c_T_refuse xs d _ h) ?_
      rfl
    · rw [c_M_mark, up_ne (by omega), if_pos (by omega)]
      refine cI_of (c_M_refuse xs d _ _) ?_
      rfl
  obtain ⟨n, hn⟩ : ∃ n : Nat, h 56 2 = (n : Int) := ⟨(h 56 2).toNat, by omega⟩
  have n3 : n = 0 ∨ n = 1 ∨ n = 2 := by omega
  obtain ⟨g1, s1, s2, s3, s4⟩ := t_takeFrom (xs := xs) (d := d) (b0 := 59 + 16 * n) (b1 := 12) (h := h) (by omega) k.1 k.2.2.1.1
  have g56 : g1 56 = h 56 := s4 56 (coL_ne (by omega))
  obtain ⟨g2, t1, t2, t3⟩ := t_tiTake (xs := xs) (d := d) (b0 := 68 + 16 * n) (b1 := 30) (g := g1) (n := c 0 0) (s := fun j => h 131 (0 + j)) (by omega) (k.2.2.2.2.2.mv (fun a h1 h2 => s4 a (coL_ne (by omega))) (fun _ _ => rfl))
  have g256 : g2 56 = h 56 := by rw [t3 56 (tiL_ne (by omega)), g56]
  have gr : ∀ a, (a < 59 + 16 * n ∨ 59 + 16 * n + 15 < a) → g2 a = h a := fun a ha => by rw [t3 a (tiL_ne (by omega)), s4 a (coL_ne (by omega))]
  have hTE : C xs d 65 0 [mR 0] h = some ([mI ((n : Int) + 1)], upM (upM g2 56 2 ((n : Int) + 1)) 0 0 0) := by
    rw [c_T_mark]
    refine cI_of (v := 0) (h := h) ?_ ?_
    · rw [c_Mk_isFull, if_pos (by omega)]
    rw [if_pos rfl]
    refine cI_of (v := (n : Int) + 1) (h := upM g2 56 2 ((n : Int) + 1)) ?_ ?_
    · rw [c_Mk_keep, hn, e_Mk_keep_4 xs d _ (by omega), show ((n : Int)).toNat = n by omega]
      refine cV_of (s1) ?_
      rw [g56, hn, e_Mk_keep_11 xs d _ (by omega), show ((n : Int)).toNat = n by omega]
      refine cV_of (t1) ?_
      rw [g256, hn]
      refine if_y (by omega) ?_
      rfl
    refine cI_of (c_T_answer xs d _ _) ?_
    rfl
  generalize hH : upM (upM g2 56 2 ((n : Int) + 1)) 0 0 0 = H at hTE
  have Hr : ∀ a, a ≠ 0 → a ≠ 56 → H a = g2 a := fun a z0 z1 => by rw [← hH, up_row z0, up_row z1]
  have H45 : H 130 45 = (n : Int) := by rw [Hr 130 (by omega) (by omega), gr 130 (by omega), ← v1, hn]
  refine ⟨(n : Int) + 1, H, upM (slM (upM H 130 45 ((n : Int) + 1)) 0 ((n : Int) + 1)) 130 2 0, hTE, ?_, ?_⟩
  · rw [c_M_mark, H45, if_neg (by omega)]
    refine if_y (by omega) ?_
    refine cV_of (m_copies (by omega) (by omega) (by omega)) ?_
    rw [slM_r (by omega) (by omega), up_eq]
    refine cI_of (c_M_gives xs d _ _) ?_
    rfl
  generalize hF : upM (slM (upM H 130 45 ((n : Int) + 1)) 0 ((n : Int) + 1)) 130 2 0 = F
  have Fr : ∀ a, a ≠ 130 → a ≠ 131 → a ≠ 132 → F a = H a := fun a a1 a2 a3 => by rw [← hF, up_row a1, slM_r a2 a3, up_row a1]
  have Fh : ∀ a, a ≠ 0 → a ≠ 56 → a ≠ 130 → a ≠ 131 → a ≠ 132 → (a < 59 + 16 * n ∨ 59 + 16 * n + 15 < a) → F a = h a := fun a z0 z56 a1 a2 a3 ha => by rw [Fr a a1 a2 a3, Hr a z0 z56, gr a ha]
  have F0 : ∀ j, F 0 j = if j = 0 then 0 else h 0 j := fun j => by rw [Fr 0 (by omega) (by omega) (by omega), ← hH, up_at, up_ne (by omega), gr 0 (by omega)]
  have F56 : F 56 2 = (n : Int) + 1 := by rw [Fr 56 (by omega) (by omega) (by omega), ← hH, up_ne (by omega), up_eq]
  have F130 : ∀ j, F 130 j = if j = 2 then 0 else if j = 45 then (n : Int) + 1 else h 130 j := fun j => by rw [← hF, up_at, slM_r (by omega) (by omega), up_at, Hr 130 (by omega) (by omega), gr 130 (by omega)]
  have b131 : ∀ j, upM H 130 45 ((n : Int) + 1) 131 j = h 131 j := fun j => by rw [up_ne (by omega), Hr 131 (by omega) (by omega), gr 131 (by omega)]
  have b132 : ∀ j, upM H 130 45 ((n : Int) + 1) 132 j = h 132 j := fun j => by rw [up_ne (by omega), Hr 132 (by omega) (by omega), gr 132 (by omega)]
  have F131 : ∀ j, F 131 j = if 414 * ((n : Int) + 1) ≤ j ∧ j < 414 * ((n : Int) + 1) + 414 then h 131 (414 * 0 + (j - 414 * ((n : Int) + 1))) else h 131 j := fun j => by rw [← hF, up_ne (by omega), slM_131, b131, b131]
  have F132 : ∀ j, F 132 j = if 7 * ((n : Int) + 1) ≤ j ∧ j < 7 * ((n : Int) + 1) + 7 then h 132 (7 * 0 + (j - 7 * ((n : Int) + 1))) else h 132 j := fun j => by rw [← hF, up_ne (by omega), slM_132, b132, b132]
  have F131o : ∀ j, j < 414 * ((n : Int) + 1) → F 131 j = h 131 j := fun j hj => by rw [F131, if_neg (by omega)]
  have F132o : ∀ j, j < 7 * ((n : Int) + 1) → F 132 j = h 132 j := fun j hj => by rw [F132, if_neg (by omega)]
  refine ⟨?_, ⟨?_, ?_⟩, fun t ht => ?_, ?_, ?_, ⟨c, ?_⟩, ⟨?_, by rw [F56]; omega, fun j hj => ?_⟩, ?_, ?_, fun j => ?_⟩
  · rw [F0, F130, if_pos rfl, if_pos rfl]
  · rw [F0, F130, if_neg (by omega), if_neg (by omega), if_neg (by omega)]; exact R2.1
  · rw [F0, F130, if_neg (by omega), if_neg (by omega), if_neg (by omega)]; exact R2.2
  · rw [Fh 7 (by omega) (by omega) (by omega) (by omega) (by omega) (by omega), Fh 8 (by omega) (by omega) (by omega) (by omega) (by omega) (by omega), Fh 133 (by omega) (by omega) (by omega) (by omega) (by omega) (by omega), Fh 134 (by omega) (by omega) (by omega) (by omega) (by omega) (by omega), Fh 135 (by omega) (by omega) (by omega) (by omega) (by omega) (by omega), Fh (3 + t) (by omega) (by omega) (by omega) (by omega) (by omega) (by omega)]
    exact R3 t ht
  · rw [Fh 9 (by omega) (by omega) (by omega) (by omega) (by omega) (by omega), Fh 10 (by omega) (by omega) (by omega) (by omega) (by omega) (by omega), Fh 136 (by omega) (by omega) (by omega) (by omega) (by omega) (by omega), F130, if_neg (by omega), if_neg (by omega)]
    exact R4
  · rw [Fh 9 (by omega) (by omega) (by omega) (by omega) (by omega) (by omega), F130, F130, if_neg (by omega), if_neg (by omega), if_neg (by omega), if_neg (by omega)]
    exact R5
  · exact k.cp (k.1.mv (fun a h1 h2 => Fh a (by omega) (by omega) (by omega) (by omega) (by omega) (by omega))) (fun p _ _ => by rw [Fh (12 + 7) (by omega) (by omega) (by omega) (by omega) (by omega) (by omega)]) (k.2.2.2.2.2.mv (fun a h1 h2 => Fh a (by omega) (by omega) (by omega) (by omega) (by omega) (by omega)) (fun _ _ => rfl)) (fun j h1 h2 => F131o _ (by omega)) (fun j h1 h2 => F132o _ (by omega))
  · rw [F56, F130, if_neg (by omega), if_pos rfl]
  · rw [F56] at hj
    by_cases z : j = n
    · subst z
      refine ⟨c, k.cp (s2.mv (fun a h1 h2 => ?_)) (fun p h1 h2 => ?_) (t2.mv (fun a h1 h2 => ?_) (fun _ _ => rfl)) (fun i h1 h2 => ?_) (fun i h1 h2 => ?_)⟩
      · rw [Fr a (by omega) (by omega) (by omega), Hr a (by omega) (by omega), t3 a (tiL_ne (by omega))]
      · rw [Fr _ (by omega) (by omega) (by omega), Hr _ (by omega) (by omega), t3 _ (tiL_ne (by omega)), s3 p h1 h2]
      · rw [Fr a (by omega) (by omega) (by omega), Hr a (by omega) (by omega)]
      · rw [F131, if_pos (by omega)]
        congr 1
        omega
      · rw [F132, if_pos (by omega)]
        congr 1
        omega
    · obtain ⟨cj, kj⟩ := v3 j (by omega)
      exact ⟨cj, kj.cp (kj.1.mv (fun a h1 h2 => Fh a (by omega) (by omega) (by omega) (by omega) (by omega) (by omega))) (fun p _ _ => by rw [Fh _ (by omega) (by omega) (by omega) (by omega) (by omega) (by omega)]) (kj.2.2.2.2.2.mv (fun a h1 h2 => Fh a (by omega) (by omega) (by omega) (by omega) (by omega) (by omega)) (fun _ _ => rfl)) (fun i h1 h2 => F131o _ (by omega)) (fun i h1 h2 => F132o _ (by omega))⟩
  · rw [F0, F130, if_neg (by omega), if_neg (by omega), if_neg (by omega), Fh 107 (by omega) (by omega) (by omega) (by omega) (by omega) (by omega), Fh 152 (by omega) (by omega) (by omega) (by omega) (by omega) (by omega)]
    exact R8
  · rw [Fh 11 (by omega) (by omega) (by omega) (by omega) (by omega) (by omega)]
    exact R9.1
  · rw [Fh 150 (by omega) (by omega) (by omega) (by omega) (by omega) (by omega)]
    exact R9.2 j
theorem q_undo (R : Rel h) : QI xs d h 66 224 [] := by
  obtain ⟨R1, R2, R3, R4, R5, R6, R7, R8, R9⟩ := id R
  obtain ⟨v1, v2, v3⟩ := R7
  by_cases none : h 56 2 = 0
  · refine QI.ans R 6 (-1) ?_ ?_
    · rw [c_T_undo]
      refine cI_of (v := 1) (h := h) ?_ ?_
      · rw [c_Mk_isEmpty, if_pos (by omega)]
      rw [if_neg (by decide)]
      refine cI_of (c_T_refuse xs d _ h) ?_
      rfl
    · rw [c_M_undo, up_ne (by omega), if_pos (by omega)]
      refine cI_of (c_M_refuse xs d _ _) ?_
      rfl
  obtain ⟨n, hn⟩ : ∃ n : Nat, h 56 2 = (n : Int) + 1 := ⟨(h 56 2 - 1).toNat, by omega⟩
  have n3 : n = 0 ∨ n = 1 ∨ n = 2 := by omega
  obtain ⟨c, k⟩ := v3 n (by omega)
  obtain ⟨g0, hg0⟩ : ∃ g0, upM h 56 2 (n : Int) = g0 := ⟨_, rfl⟩
  have g0r : ∀ a, a ≠ 56 → g0 a = h a := fun a ha => by rw [← hg0, up_row ha]
  have g056 : g0 56 2 = (n : Int) := by rw [← hg0, up_eq]
  obtain ⟨g1, s1, s2, s3, s4⟩ := t_takeFrom (xs := xs) (d := d) (b0 := 12) (b1 := 59 + 16 * n) (h := g0) (by omega) (k.1.mv (fun a h1 h2 => g0r a (by omega))) k.2.2.1.1
  have g56 : g1 56 2 = (n : Int) := by rw [s4 56 (coL_ne (by omega))]; exact g056
  obtain ⟨g2, t1, t2, t3⟩ := t_tiTake (xs := xs) (d := d) (b0 := 30) (b1 := 68 + 16 * n) (g := g1) (n := c 0 0) (s := fun j => h 131 (414 * ((n : Int) + 1) + j)) (by omega) (k.2.2.2.2.2.mv (fun a h1 h2 => by rw [s4 a (coL_ne (by omega)), g0r a (by omega)]) (fun _ _ => rfl))
  have g256 : g2 56 2 = (n : Int) := by rw [t3 56 (tiL_ne (by omega))]; exact g56
  have gr : ∀ a, a ≠ 56 → (a < 12 ∨ 20 < a) → (a < 30 ∨ 36 < a) → g2 a = h a := fun a a0 a1 a2 => by rw [t3 a (tiL_ne (by omega)), s4 a (coL_ne (by omega)), g0r a a0]
  have hTE : C xs d 66 0 [mR 0] h = some ([mI (n : Int)], upM g2 0 0 0) := by
    rw [c_T_undo]
    refine cI_of (v := 0) (h := h) ?_ ?_
    · rw [c_Mk_isEmpty, if_neg (by omega)]
    rw [if_pos rfl]
    refine cI_of (v := (n : Int)) (h := g2) ?_ ?_
    · rw [c_Mk_giveBack, hn, show (n : Int) + 1 - 1 = (n : Int) by omega]
      refine if_y (by omega) ?_
      rw [hg0, e_Mk_giveBack_11 xs d _ (by omega), show ((n : Int)).toNat = n by omega]
      refine cV_of (s1) ?_
      rw [g56, e_Mk_giveBack_18 xs d _ (by omega), show ((n : Int)).toNat = n by omega]
      refine cV_of (t1) ?_
      rw [g256]
    refine cI_of (c_T_answer xs d _ _) ?_
    rfl
  generalize hH : upM g2 0 0 0 = H at hTE
  have Hr : ∀ a, a ≠ 0 → H a = g2 a := fun a z0 => by rw [← hH, up_row z0]
  have H45 : H 130 45 = (n : Int) + 1 := by rw [Hr 130 (by omega), gr 130 (by omega) (by omega) (by omega), ← v1, hn]
  refine ⟨(n : Int), H, upM (upM (slM H ((n : Int) + 1) 0) 130 45 (n : Int)) 130 2 0, hTE, ?_, ?_⟩
  · rw [c_M_undo, H45, if_neg (by omega)]
    refine cV_of (m_copies (by omega) (by omega) (by omega)) ?_
    rw [slM_r (by omega) (by omega), H45, show (n : Int) + 1 - 1 = (n : Int) by omega]
    refine if_y (by omega) ?_
    refine cI_of (c_M_gives xs d _ _) ?_
    rfl
  generalize hF : upM (upM (slM H ((n : Int) + 1) 0) 130 45 (n : Int)) 130 2 0 = F
  have Fr : ∀ a, a ≠ 130 → a ≠ 131 → a ≠ 132 → F a = H a := fun a a1 a2 a3 => by rw [← hF, up_row a1, up_row a1, slM_r a2 a3]
  have Fh : ∀ a, a ≠ 0 → a ≠ 56 → a ≠ 130 → a ≠ 131 → a ≠ 132 → (a < 12 ∨ 20 < a) → (a < 30 ∨ 36 < a) → F a = h a := fun a z0 z56 a1 a2 a3 h1 h2 => by rw [Fr a a1 a2 a3, Hr a z0, gr a z56 h1 h2]
  have F0 : ∀ j, F 0 j = if j = 0 then 0 else h 0 j := fun j => by rw [Fr 0 (by omega) (by omega) (by omega), ← hH, up_at, gr 0 (by omega) (by omega) (by omega)]
  have F56 : F 56 2 = (n : Int) := by rw [Fr 56 (by omega) (by omega) (by omega), Hr 56 (by omega)]; exact g256
  have F130 : ∀ j, F 130 j = if j = 2 then 0 else if j = 45 then (n : Int) else h 130 j := fun j => by rw [← hF, up_at, up_at, slM_r (by omega) (by omega), Hr 130 (by omega), gr 130 (by omega) (by omega) (by omega)]
  have b131 : ∀ j, H 131 j = h 131 j := fun j => by rw [Hr 131 (by omega), gr 131 (by omega) (by omega) (by omega)]
  have b132 : ∀ j, H 132 j = h 132 j := fun j => by rw [Hr 132 (by omega), gr 132 (by omega) (by omega) (by omega)]
  have F131 : ∀ j, F 131 j = if 414 * 0 ≤ j ∧ j < 414 * 0 + 414 then h 131 (414 * ((n : Int) + 1) + (j - 414 * 0)) else h 131 j := fun j => by rw [← hF, up_ne (by omega), up_ne (by omega), slM_131, b131, b131]
  have F132 : ∀ j, F 132 j = if 7 * 0 ≤ j ∧ j < 7 * 0 + 7 then h 132 (7 * ((n : Int) + 1) + (j - 7 * 0)) else h 132 j := fun j => by rw [← hF, up_ne (by omega), up_ne (by omega), slM_132, b132, b132]
  have F131o : ∀ j, 414 ≤ j → F 131 j = h 131 j := fun j hj => by rw [F131, if_neg (by omega)]
  have F132o : ∀ j, 7 ≤ j → F 132 j = h 132 j := fun j hj => by rw [F132, if_neg (by omega)]
  refine ⟨?_, ⟨?_, ?_⟩, fun t ht => ?_, ?_, ?_, ⟨c, ?_⟩, ⟨?_, by rw [F56]; omega, fun j hj => ?_⟩, ?_, ?_, fun j => ?_⟩
  · rw [F0, F130, if_pos rfl, if_pos rfl]
  · rw [F0, F130, if_neg (by omega), if_neg (by omega), if_neg (by omega)]; exact R2.1
  · rw [F0, F130, if_neg (by omega), if_neg (by omega), if_neg (by omega)]; exact R2.2
  · rw [Fh 7 (by omega) (by omega) (by omega) (by omega) (by omega) (by omega) (by omega), Fh 8 (by omega) (by omega) (by omega) (by omega) (by omega) (by omega) (by omega), Fh 133 (by omega) (by omega) (by omega) (by omega) (by omega) (by omega) (by omega), Fh 134 (by omega) (by omega) (by omega) (by omega) (by omega) (by omega) (by omega), Fh 135 (by omega) (by omega) (by omega) (by omega) (by omega) (by omega) (by omega), Fh (3 + t) (by omega) (by omega) (by omega) (by omega) (by omega) (by omega) (by omega)]
    exact R3 t ht
  · rw [Fh 9 (by omega) (by omega) (by omega) (by omega) (by omega) (by omega) (by omega), Fh 10 (by omega) (by omega) (by omega) (by omega) (by omega) (by omega) (by omega), Fh 136 (by omega) (by omega) (by omega) (by omega) (by omega) (by omega) (by omega), F130, if_neg (by omega), if_neg (by omega)]
    exact R4
  · rw [Fh 9 (by omega) (by omega) (by omega) (by omega) (by omega) (by omega) (by omega), F130, F130, if_neg (by omega), if_neg (by omega), if_neg (by omega), if_neg (by omega)]
    exact R5
  · refine k.cp (s2.mv (fun a h1 h2 => ?_)) (fun p h1 h2 => ?_) (t2.mv (fun a h1 h2 => ?_) (fun _ _ => rfl)) (fun i h1 h2 => ?_) (fun i h1 h2 => ?_)
    · rw [Fr a (by omega) (by omega) (by omega), Hr a (by omega), t3 a (tiL_ne (by omega))]
    · rw [Fr _ (by omega) (by omega) (by omega), Hr _ (by omega), t3 _ (tiL_ne (by omega)), s3 p h1 h2, g0r _ (by omega)]
    · rw [Fr a (by omega) (by omega) (by omega), Hr a (by omega)]
    · rw [F131, if_pos (by omega)]
      congr 1
      omega
    · rw [F132, if_pos (by omega)]
      congr 1
      omega
  · rw [F56, F130, if_neg (by omega), if_pos rfl]
  · rw [F56] at hj
    obtain ⟨cj, kj⟩ := v3 j (by omega)
    exact ⟨cj, kj.cp (kj.1.mv (fun a h1 h2 => Fh a (by omega) (by omega) (by omega) (by omega) (by omega) (by omega) (by omega))) (fun p _ _ => by rw [Fh _ (by omega) (by omega) (by omega) (by omega) (by omega) (by omega) (by omega)]) (kj.2.2.2.2.2.mv (fun a h1 h2 => Fh a (by omega) (by omega) (by omega) (by omega) (by omega) (by omega) (by omega)) (fun _ _ => rfl)) (fun i h1 h2 => F131o _ (by omega)) (fun i h1 h2 => F132o _ (by omega))⟩
  · rw [F0, F130, if_neg (by omega), if_neg (by omega), if_neg (by omega), Fh 107 (by omega) (by omega) (by omega) (by omega) (by omega) (by omega) (by omega), Fh 152 (by omega) (by omega) (by omega) (by omega) (by omega) (by omega) (by omega)]
    exact R8
  · rw [Fh 11 (by omega) (by omega) (by omega) (by omega) (by omega) (by omega) (by omega)]
    exact R9.1
  · rw [Fh 150 (by omega) (by omega) (by omega) (by omega) (by omega) (by omega) (by omega)]
    exact R9.2 j
end
