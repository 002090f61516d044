/-! EQUIV 35: the call times -/
section
variable {xs : List Int} {d : Nat} {h g : mM} {cN : Nat}
theorem StR_of {r : Int} (R : RoW cN r h g) {n : Int} (I : Nst n (h 49) (h 54)) (h1 : 0 ≤ r) (h2 : r < n) : StR (cN : Int) r (h 49 r) (h 50 r) (h 51 r) (h 52 r) (h 53 r) (h 54 r) (g 131 (1702 + 6 * r)) (g 131 (1702 + 6 * r + 1)) (g 131 (1702 + 6 * r + 2)) (g 131 (1702 + 6 * r + 4)) (g 131 (1702 + 6 * r + 5)) := by
  obtain ⟨R1, R2⟩ := R
  obtain ⟨I1, I2, -⟩ := I r h1 h2
  unfold StR
  rcases R1 with ⟨u1, u2⟩ | ⟨u1, u2⟩
  · obtain ⟨v1, v2, -⟩ := I2 u1
    exact Or.inr (Or.inr (Or.inr (Or.inr (Or.inr (Or.inr (Or.inr (Or.inl ⟨u1, u2, R2 (by omega), v1, v2⟩)))))))
  · unfold RoA StA at u2
    rcases u2 with u | u | u | u | u | u | u | u
    · exact Or.inl u
    · exact Or.inr (Or.inl u)
    · exact Or.inr (Or.inr (Or.inl u))
    · exact Or.inr (Or.inr (Or.inr (Or.inl u)))
    · exact Or.inr (Or.inr (Or.inr (Or.inr (Or.inl u))))
    · obtain ⟨v1, -⟩ := I1 (Or.inl u.1)
      exact Or.inr (Or.inr (Or.inr (Or.inr (Or.inr (Or.inl ⟨u.1, u.2.1, u.2.2.1, u.2.2.2.1, u.2.2.2.2, R2 (by omega), v1⟩)))))
    · obtain ⟨v1, -⟩ := I1 (Or.inr u.1)
      exact Or.inr (Or.inr (Or.inr (Or.inr (Or.inr (Or.inr (Or.inl ⟨u.1, u.2.1, u.2.2.1, u.2.2.2.1, u.2.2.2.2, R2 (by omega), v1⟩))))))
    · exact Or.inr (Or.inr (Or.inr (Or.inr (Or.inr (Or.inr (Or.inr (Or.inr u)))))))
theorem times_sim {m0 : mM} {n : Nat} (hN : n ≤ 300) (l1 : (n : Int) ≤ h 9 2) (l2 : (n : Int) ≤ m0 130 10) (hb : ∀ i, 0 ≤ i → i < (n : Int) → h 10 i = m0 136 i ∧ inB (h 10 i)) (hw : ∀ i, 1 ≤ i → i ≤ 23 → h 11 i = (nth WL i.toNat).getD 0) (P : PeR cN h m0) : ∃ b gT gM x2, C xs d 325 0 [mR 47, mI (n : Int), mR 12] h = some ([mI b], gT) ∧ C xs d 125 0 [mR 130, mI (n : Int)] m0 = X xs d k_M_times 41 [mR 130, mI (n : Int), mI x2, mC 0] [] gM ∧ MaR h m0 gT gM b ∧ (b = 1 → ∃ n' s' gT', gT = upM gT' 48 8 1 ∧ TsI cN n' s' 0 gT' gM) := by
  generalize hh1 : upM (upM (upM h 48 6 0) 48 7 0) 48 8 0 = h1
  generalize hh2 : upM h1 47 3 0 = h2
  have h2r : ∀ a, a ≠ 47 → a ≠ 48 → h2 a = h a := fun a a1 a2 => by rw [← hh2, up_row a1, ← hh1, up_row a2, up_row a2, up_row a2]
  obtain ⟨HM, g0, n0, k, f, e, r1, r2, S0, r3, r4, r5, r6, r7⟩ := p_start (xs := xs) (d := d) (gT := h2) (gM := m0) (n := n) (most := 300) (by omega) (by omega) (by rw [h2r 9 (by omega) (by omega)]; exact l1) l2 (fun i a b => by rw [h2r 10 (by omega) (by omega)]; exact hb i a b) (fun i a b => by rw [h2r 11 (by omega) (by omega)]; exact hw i a b)
  generalize hn1 : upM (upM (upM n0 131 1664 0) 130 22 0) 130 23 0 = n1
  have S1 : RdS (upM h2 9 3 (n : Int)) HM (txH h2) n k f e g0 n1 := by
    rw [← hn1]
    exact ((S0.uM (by omega)).u130 (by omega)).u130 (by omega)
  have PE : PeR cN (upM h2 9 3 (n : Int)) HM := by
    obtain ⟨p1, p2, p3, p4⟩ := P
    refine ⟨by rw [up_ne (by omega), h2r 12 (by omega) (by omega)]; exact p1, by rw [r5 131 (by omega) (by omega)]; exact p2, p3, p4.mv (fun p _ _ => by rw [up_ne (by omega), h2r 19 (by omega) (by omega)]) (fun p _ _ => by rw [r5 132 (by omega) (by omega)])⟩
  have T1 : TsI cN 0 0 0 g0 n1 := by
    have g48 : ∀ j, g0 48 j = h1 48 j := fun j => by rw [r3 48 (by omega), ← hh2, up_ne (by omega)]
    refine ⟨⟨?_, ?_, ?_⟩, ⟨?_, ?_, ?_⟩, by omega, fun j a b => absurd b (by omega), ⟨fun j a b => absurd b (by omega), fun i j a b c => absurd c (by omega), fun r a b => absurd b (by omega), fun r a b => absurd b (by omega), fun r o a b c => absurd c (by omega), fun j o a b => absurd b (by omega)⟩, fun r a b => absurd b (by omega)⟩
    · rw [g48, ← hh1, up_at, if_neg (by omega), up_at, if_neg (by omega), up_eq]; rfl
    · rw [g48, ← hh1, up_at, if_neg (by omega), up_eq]; rfl
    · rw [r3 47 (by omega), ← hh2, up_eq]; rfl
    · rw [← hn1, up_ne (by omega), up_ne (by omega), up_eq]; rfl
    · rw [← hn1, up_eq]; rfl
    · rw [← hn1, up_at, if_neg (by omega), up_eq]; rfl
  have runT : C xs d 325 0 [mR 47, mI (n : Int), mR 12] h = X xs d k_TR_readTimes 12 [mR 47, mI (n : Int), mR 12, mI 0] [] g0 := by
    rw [c_TR_readTimes]
    refine cV_of (h := h1) ?_ ?_
    · rw [c_Ti_forget xs d (by omega), hh1]
    rw [hh2]
    refine cV_of (r1) ?_
    rfl
  have runM : C xs d 125 0 [mR 130, mI (n : Int)] m0 = X xs d k_M_times 22 [mR 130, mI (n : Int), mI 1, mC 0] [] n1 := by
    rw [c_M_times]
    refine cI_of (r2) ?_
    rw [if_neg (by decide), hn1]
  rw [runT, runM]
  have e2 : ∀ a, (a < 37 ∨ 55 < a) → h2 a = h a := fun a ha => h2r a (by omega) (by omega)
  rcases p_tparts (xs := xs) (d := d) PE hN (n : Int) (n + 1) 0 k f e g0 n1 0 0 0 (by omega) (by omega) S1 T1 with ⟨gT, gM, n', s', v1, v2, v3, v4, v5, v6, v7⟩ | ⟨gT, gM, x2, v1, v2, v3, v4, v5, v6, v7⟩
  · refine ⟨1, _, gM, 1, v1, v2, MaR.of (Or.inl rfl) e2 (n : Int) (v3.up (by omega)) v4 r5 r6 r7 (by rw [up_ne (by omega), v5.1, v6.1]) (by rw [up_ne (by omega), v5.2, v6.2]) (fun _ => v6.1) (fun z => absurd z (by decide)), fun _ => ⟨n', s', gT, rfl, v7⟩⟩
  · exact ⟨0, gT, gM, x2, v1, v2, MaR.of (Or.inr rfl) e2 (n : Int) v3 v4 r5 r6 r7 v5 v6 (fun z => absurd z (by decide)) (fun _ => v7), fun z => absurd z (by decide)⟩
/-- the draft of times comes to its place -/
abbrev cpS (g : mM) : mM := rowW (upM g 131 8 (g 131 1664)) 131 46 360 (fun k => g 131 (1656 + k))
theorem m_timesEnd (x1 x2 : Int) (h0 : g 130 18 = 0) : X xs d k_M_times 41 [mR 130, mI x1, mI x2, mC 0] [] g = some ([mI (g 130 23)], upM (upM (cpS g) 130 16 0) 130 2 0) := by
  rw [e_M_times_41, if_pos h0]
  have st : ∀ i : Nat, i < 360 → X xs d k_M_times 54 [mR 130, mI x1, mI x2, mI (46 + (i : Int))] [] (rowW (upM g 131 8 (g 131 1664)) 131 46 (i : Int) (fun k => g 131 (1656 + k))) = X xs d k_M_times 54 [mR 130, mI x1, mI x2, mI (46 + ((i + 1 : Nat) : Int))] [] (rowW (upM g 131 8 (g 131 1664)) 131 46 ((i + 1 : Nat) : Int) (fun k => g 131 (1656 + k))) := by
    intro i hi
    rw [e_M_times_54]
    refine if_y (by omega) ?_
    refine if_y (by omega) ?_
    refine if_y (by omega) ?_
    refine if_y (by omega) ?_
    refine if_y (by omega) ?_
    rw [rowW_out (by omega), up_at, if_neg (by omega), rowW_up (by omega) rfl, show 46 + (i : Int) + 1 = 46 + ((i + 1 : Nat) : Int) by omega]
    rfl
  have r1 := run_to (fun i : Nat => X xs d k_M_times 54 [mR 130, mI x1, mI x2, mI (46 + (i : Int))] [] (rowW (upM g 131 8 (g 131 1664)) 131 46 (i : Int) (fun k => g 131 (1656 + k)))) st
  have r0 : X xs d k_M_times 54 [mR 130, mI x1, mI x2, mI 46] [] (upM g 131 8 (g 131 1664)) = X xs d k_M_times 54 [mR 130, mI x1, mI x2, mI (46 + ((0 : Nat) : Int))] [] (rowW (upM g 131 8 (g 131 1664)) 131 46 ((0 : Nat) : Int) (fun k => g 131 (1656 + k))) := by
    rw [show ((0 : Nat) : Int) = 0 from rfl, rowW_0]
    rfl
  rw [r0]
  refine r1.trans ?_
  rw [e_M_times_54]
  refine if_n (by omega) ?_
  have e23 : ∀ j, rowW (upM g 131 8 (g 131 1664)) 131 46 ((360 : Nat) : Int) (fun k => g 131 (1656 + k)) 130 j = g 130 j := fun j => by
    rw [rowW_ne (by omega), up_ne (by omega)]
  rw [e23]
  refine cI_of (v := g 130 23) (h := upM (upM (cpS g) 130 16 0) 130 2 0) ?_ rfl
  rw [c_M_taken, e23, h0, if_neg (by decide)]
  refine cI_of (c_M_gives xs d _ _) ?_
  rfl
theorem m_timesBad (x1 x2 : Int) (h0 : 0 < g 130 18) : X xs d k_M_times 41 [mR 130, mI x1, mI x2, mC 0] [] g = some ([mI (-1)], upM (upM g 130 16 (g 130 18)) 130 2 9) := by
  rw [e_M_times_41, if_neg (by omega)]
  refine cI_of (v := -1) (h := upM (upM g 130 16 (g 130 18)) 130 2 9) ?_ rfl
  rw [c_M_taken, if_pos h0]
  refine cI_of (c_M_refuse xs d _ _) ?_
  rfl
theorem q_times (R : Rel h) (x : Int) : QI xs d h 13 125 [mI x] := by
  obtain ⟨c, k⟩ := R.co
  obtain ⟨R1, R2, R3, R4, R5, R6, R7, R8, R9⟩ := id R
  have kT := k.1
  have kM := CoM.z.mp k.2.1
  have w := k.2.2.1
  have hc := w.1
  by_cases q : (0 ≤ x ∧ x ≤ h 9 2) ∧ x ≤ 300
  rotate_left
  · refine QI.ans R 1 (-1) ?_ ?_
    · rw [c_T_times]
      refine cI_of (c_Tp_length xs d h) ?_
      refine cI_of (t_within) ?_
      by_cases z : 0 ≤ x ∧ x ≤ h 9 2
      · rw [if_neg (fun y => b2i_0.mp y z), if_pos (by omega)]
        refine cI_of (c_T_refuse xs d _ h) ?_
        rfl
      · rw [if_pos (b2i_0.mpr z)]
        refine cI_of (c_T_refuse xs d _ h) ?_
        rfl
    · rw [c_M_times]
      refine cI_of (m_beginsNo (by rw [up_ne (by omega), ← R4.1]; omega)) ?_
      rw [if_pos rfl]
      refine cI_of (c_M_refuse xs d _ _) ?_
      rfl
  obtain ⟨q, q300⟩ := q
  obtain ⟨n, rfl⟩ : ∃ n : Nat, x = (n : Int) := ⟨x.toNat, by omega⟩
  obtain ⟨cN, hcN⟩ : ∃ cN : Nat, c 0 0 = (cN : Int) := ⟨(c 0 0).toNat, by omega⟩
  have nm : NmR (h 19) (fun p => h 132 (0 + p)) (cN : Int) := by rw [← hcN]; exact k.2.2.2.2.1
  have sim := fun (m0 : mM) (e10 : m0 130 10 = h 130 10) (e136 : m0 136 = h 136) (e131 : m0 131 = h 131) (e132 : m0 132 = h 132) => times_sim (xs := xs) (d := d) (h := h) (m0 := m0) (n := n) (cN := cN) (by omega) q.2 (by rw [e10, ← R4.1]; exact q.2) (fun i a b => by rw [e136]; exact R4.2.2 i a (by omega)) R9.1 ⟨by rw [kT.n, hcN], by rw [e131, kM.n, hcN], by omega, by rw [e132]; exact nm⟩
  obtain ⟨b, gT, gM0, x20, t1, _, A0, D0⟩ := sim h rfl rfl rfl rfl
  have preT : ∀ o, (if b = (0 : Int) then cI (C xs d 68 0 [mR 0, mI 9] (upM gT 9 2 0)) (fun v6 h6 => some ([mI v6], h6)) else cR (C xs d 324 0 [mR 47] (upM gT 9 2 0)) (fun v5 h5 => X xs d k_T_times 35 [mR 0, mI (n : Int), mI b] [mR v5, mR 30] h5)) = o → C xs d 13 0 [mR 0, mI (n : Int)] h = o := by
    intro o ho
    rw [c_T_times]
    refine cI_of (c_Tp_length xs d h) ?_
    refine cI_of (t_within) ?_
    rw [if_neg (fun z => b2i_0.mp z q), if_neg (by omega)]
    refine cI_of (t1) ?_
    refine cV_of (c_Tp_empty xs d _) ?_
    exact ho
  obtain ⟨a1, a2, -, -, -, -, -, a8, -⟩ := A0
  -- what the reference makes of it, whichever it is
  have fin : ∀ (v s : Int) (h1 F : mM), C xs d 13 0 [mR 0, mI (n : Int)] h = some ([mI v], h1) → C xs d 125 0 [mR 130, mI (n : Int)] h1 = some ([mI v], F) → (∀ a, a ≠ 0 → a ≠ 9 → (a < 30 ∨ 36 < a) → (a < 37 ∨ 55 < a) → a ≠ 130 → a ≠ 131 → a ≠ 132 → a ≠ 137 → a ≠ 138 → F a = h a) → (∀ j, j ≠ 0 → F 0 j = h 0 j) → F 0 0 = s → F 130 2 = s → (∀ j, (j < 10 ∨ 23 < j) → j ≠ 2 → F 130 j = h 130 j) → F 9 2 = 0 → F 130 10 = 0 → F 9 11 = F 130 16 → F 9 12 = F 130 17 → (∀ j, (j < 8 ∨ 8 < j ∧ j < 46 ∨ 406 ≤ j ∧ j < 1656) → F 131 j = h 131 j) → (∀ j, j < 28 → F 132 j = h 132 j) → TiR 30 (c 0 0) F (fun j => F 131 (0 + j)) → QI xs d h 13 125 [mI (n : Int)] := by
    intro v s h1 F e1 e2 FT F0 F00 F2 F130 F92 F10 F11 F12 F131 F132 TI
    refine ⟨v, h1, F, e1, e2, ?_⟩
    have S : SlotR 12 30 c F 0 0 := by
      obtain ⟨k1, k2, k3, k4, k5, k6⟩ := k
      refine ⟨k1.mv (fun a z1 z2 => FT a (by omega) (by omega) (by omega) (by omega) (by omega) (by omega) (by omega) (by omega) (by omega)), ?_, k3, k4, k5.mv (fun p z1 z2 => by rw [FT (12 + 7) (by omega) (by omega) (by omega) (by omega) (by omega) (by omega) (by omega) (by omega) (by omega)]) (fun p z1 z2 => F132 _ (by omega)), TI⟩
      refine CoM.z.mpr ?_
      obtain ⟨p1, p2, p3, p4, p5, p6, p7, p8⟩ := CoM.z.mp k2
      have e : ∀ j, (j < 8 ∨ 8 < j ∧ j < 46) → F 131 j = h 131 j := fun j hj => F131 j (by omega)
      exact ⟨(e _ (by omega)).trans p1, (e _ (by omega)).trans p2, fun i a b => (e _ (by omega)).trans (p3 i a b), fun i a b => (e _ (by omega)).trans (p4 i a b), fun i a b => (e _ (by omega)).trans (p5 i a b), fun i a b => (e _ (by omega)).trans (p6 i a b), fun i a b => (e _ (by omega)).trans (p7 i a b), fun i a b => (e _ (by omega)).trans (p8 i a b)⟩
    refine R.gen S ?_ ⟨?_, ?_⟩ ⟨?_, ?_, fun i z1 z2 => ?_⟩ ⟨?_, ?_⟩ ?_ (fun a ha => ?_) (fun j z1 z2 => ?_) (fun j z1 z2 => ?_) ?_
    · rw [F00, F2]
    · rw [F0 1 (by omega), F130 3 (by omega) (by omega)]; exact R2.1
    · rw [F0 2 (by omega), F130 4 (by omega) (by omega)]; exact R2.2
    · rw [F92, F10]
    · rw [F92]; omega
    · rw [F92] at z2; omega
    · exact F11
    · exact F12
    · rw [F0 3 (by omega), F130 44 (by omega) (by omega), FT 107 (by omega) (by omega) (by omega) (by omega) (by omega) (by omega) (by omega) (by omega) (by omega), FT 152 (by omega) (by omega) (by omega) (by omega) (by omega) (by omega) (by omega) (by omega) (by omega)]
      exact R8
    · obtain ⟨y0, y9, y37, y130, y131, y132, y137, y138, y12, y30, y31⟩ := keptM_T a ha
      exact FT a y0 y9 (by omega) y37 y130 y131 y132 y137 y138
    · exact F132 j z2
    · exact F131 j (by omega)
    · exact F130 45 (by omega) (by omega)
  rcases a8 with rfl | rfl
  · obtain ⟨n', s', gT', e48, D⟩ := D0 rfl
    have n6 : gT 48 6 = (n' : Int) := by rw [e48, up_at, if_neg (by omega)]; exact D.1.1
    have n7 : gT 48 7 = (s' : Int) := by rw [e48, up_at, if_neg (by omega)]; exact D.1.2.1
    have n8 : gT 48 8 = 1 := by rw [e48, up_eq]
    have lim := D.2.2.1
    generalize hh1 : mCpy (mCpy (mCpy (mCpy (mCpy (mCpy (upM gT 9 2 0) 49 0 31 0 (n' : Int)) 50 0 32 0 (n' : Int)) 51 0 33 0 (n' : Int)) 52 0 34 0 (n' : Int)) 53 0 35 0 (n' : Int)) 54 0 36 0 (n' : Int) = H1
    generalize hh2 : upM (upM (upM H1 30 6 (n' : Int)) 30 7 (s' : Int)) 30 8 1 = H2
    have H1r : ∀ a, (a < 31 ∨ 36 < a) → H1 a = upM gT 9 2 0 a := fun a ha => by
      rw [← hh1, cpy_row (by omega), cpy_row (by omega), cpy_row (by omega), cpy_row (by omega), cpy_row (by omega), cpy_row (by omega)]
    have H1c : ∀ a, 31 ≤ a → a ≤ 36 → ∀ r, 0 ≤ r → r < (n' : Int) → H1 a r = gT (a + 18) r := fun a h1 h2 r h3 h4 => by
      rw [← hh1]
      have : a = 31 ∨ a = 32 ∨ a = 33 ∨ a = 34 ∨ a = 35 ∨ a = 36 := by omega
      rcases this with rfl | rfl | rfl | rfl | rfl | rfl
      · rw [cpy_row (by omega), cpy_row (by omega), cpy_row (by omega), cpy_row (by omega), cpy_row (by omega), cpy_in ⟨h3, h4⟩, up_ne (by omega)]
      · rw [cpy_row (by omega), cpy_row (by omega), cpy_row (by omega), cpy_row (by omega), cpy_in ⟨h3, h4⟩, cpy_row (by omega), up_ne (by omega)]
      · rw [cpy_row (by omega), cpy_row (by omega), cpy_row (by omega), cpy_in ⟨h3, h4⟩, cpy_row (by omega), cpy_row (by omega), up_ne (by omega)]
      · rw [cpy_row (by omega), cpy_row (by omega), cpy_in ⟨h3, h4⟩, cpy_row (by omega), cpy_row (by omega), cpy_row (by omega), up_ne (by omega)]
      · rw [cpy_row (by omega), cpy_in ⟨h3, h4⟩, cpy_row (by omega), cpy_row (by omega), cpy_row (by omega), cpy_row (by omega), up_ne (by omega)]
      · rw [cpy_in ⟨h3, h4⟩, cpy_row (by omega), cpy_row (by omega), cpy_row (by omega), cpy_row (by omega), cpy_row (by omega), up_ne (by omega)]
    have hTE : C xs d 13 0 [mR 0, mI (n : Int)] h = some ([mI (s' : Int)], upM H2 0 0 0) := by
      refine preT _ ?_
      rw [if_neg (by decide)]
      refine cR_of (c_TR_draft xs d _) ?_
      rw [e_T_times_35]
      refine cV_of (h := H2) ?_ ?_
      · rw [c_Ti_takeFrom xs d (by omega), up_ne (by omega), up_ne (by omega), up_ne (by omega), n6, n7, n8]
        refine if_y (by omega) ?_
        refine if_y (by omega) ?_
        refine if_y (by omega) ?_
        refine if_y (by omega) ?_
        refine if_y (by omega) ?_
        refine if_y (by omega) ?_
        refine if_y (by omega) ?_
        rw [hh1, hh2]
      have e307 : H2 30 7 = (s' : Int) := by rw [← hh2, up_at, if_neg (by omega), up_eq]
      rw [e307]
      refine cI_of (c_T_answer xs d _ _) ?_
      rfl
    have mr : ∀ a, a ≠ 0 → a ≠ 9 → (a < 30 ∨ 36 < a) → (a < 37 ∨ 55 < a) → upM H2 0 0 0 a = h a := fun a z0 z9 z30 z37 => by rw [up_row z0, ← hh2, up_row (by omega), up_row (by omega), up_row (by omega), H1r a (by omega), up_row z9, a1 a z9 z37]
    obtain ⟨b', gT2, gM, x2, t1', m1, A, D2⟩ := sim (upM H2 0 0 0) (by rw [mr 130 (by omega) (by omega) (by omega) (by omega)]) (mr 136 (by omega) (by omega) (by omega) (by omega)) (mr 131 (by omega) (by omega) (by omega) (by omega)) (mr 132 (by omega) (by omega) (by omega) (by omega))
    rw [t1] at t1'
    obtain ⟨rfl, rfl⟩ : (1 : Int) = b' ∧ gT = gT2 := by
      have := Option.some.inj t1'
      injection this with e1 e2
      injection e1 with e3
      injection e3 with e4
      exact ⟨e4, e2⟩
    obtain ⟨n2, s2, gT2, e482, D2⟩ := D2 rfl
    have nn : n2 = n' := by
      have : gT 48 6 = (n2 : Int) := by rw [e482, up_at, if_neg (by omega)]; exact D2.1.1
      omega
    have ss : s2 = s' := by
      have : gT 48 7 = (s2 : Int) := by rw [e482, up_at, if_neg (by omega)]; exact D2.1.2.1
      omega
    rw [nn, ss] at D2
    obtain ⟨-, -, A3, A4, A5, A6, A7, -, A9, A10, A11, -⟩ := A
    have z18 := A11 rfl
    have rT : ∀ a, a ≠ 48 → gT2 a = gT a := fun a ha => by rw [e482, up_row ha]
    obtain ⟨d1, d2, d3, d4, d5, d6⟩ := D2
    have ns := NsI.nst d5
    generalize hF : upM (upM (cpS gM) 130 16 0) 130 2 0 = F
    have Fr : ∀ a, a ≠ 130 → a ≠ 131 → F a = gM a := fun a z1 z2 => by rw [← hF, up_row z1, up_row z1, cpS, rowW_ne z2, up_row z2]
    have F130 : ∀ j, j ≠ 2 → j ≠ 16 → F 130 j = gM 130 j := fun j z1 z2 => by rw [← hF, up_at, if_neg z1, up_at, if_neg z2, cpS, rowW_ne (by omega), up_ne (by omega)]
    have F131 : ∀ j, F 131 j = if 46 ≤ j ∧ j < 406 then gM 131 (1656 + j) else if j = 8 then (n' : Int) else gM 131 j := fun j => by
      rw [← hF, up_ne (by omega), up_ne (by omega), cpS]
      by_cases z : 46 ≤ j ∧ j < 406
      · rw [rowW_in (by omega), if_pos z]
      · rw [rowW_out (by omega), up_at, if_neg z, d2.1]
    have Fm : ∀ a, a ≠ 130 → a ≠ 131 → a ≠ 132 → a ≠ 137 → a ≠ 138 → F a = upM H2 0 0 0 a := fun a z1 z2 z3 z4 z5 => by rw [Fr a z1 z2, A3 a z1 z2 z3 z4 z5]
    have F9 : ∀ j, j ≠ 2 → F 9 j = gT 9 j := fun j hj => by rw [Fm 9 (by omega) (by omega) (by omega) (by omega) (by omega), up_ne (by omega), ← hh2, up_ne (by omega), up_ne (by omega), up_ne (by omega), H1r 9 (by omega), up_at, if_neg hj]
    have F3x : ∀ a, 31 ≤ a → a ≤ 36 → ∀ r, 0 ≤ r → r < (n' : Int) → F a r = gT2 (a + 18) r := fun a h1 h2 r h3 h4 => by
      rw [Fm a (by omega) (by omega) (by omega) (by omega) (by omega), up_ne (by omega), ← hh2, up_ne (by omega), up_ne (by omega), up_ne (by omega), H1c a h1 h2 r h3 h4, rT (a + 18) (by omega)]
    refine fin (s' : Int) 0 _ F hTE (by rw [m1, m_timesEnd _ _ z18, d2.2.1, hF]) (fun a z0 z9 z30 z37 y1 y2 y3 y4 y5 => by rw [Fm a y1 y2 y3 y4 y5, mr a z0 z9 z30 z37]) (fun j hj => ?_) ?_ ?_ (fun j hj z2 => ?_) ?_ ?_ ?_ ?_ (fun j hj => ?_) (fun j hj => ?_) ?_
    · rw [Fm 0 (by omega) (by omega) (by omega) (by omega) (by omega), up_at, if_neg hj, ← hh2, up_ne (by omega), up_ne (by omega), up_ne (by omega), H1r 0 (by omega), up_ne (by omega), a1 0 (by omega) (by omega)]
    · rw [Fm 0 (by omega) (by omega) (by omega) (by omega) (by omega), up_eq]
    · rw [← hF, up_eq]
    · rw [F130 j z2 (by omega), A4 j (by omega), mr 130 (by omega) (by omega) (by omega) (by omega)]
    · rw [Fm 9 (by omega) (by omega) (by omega) (by omega) (by omega), up_ne (by omega), ← hh2, up_ne (by omega), up_ne (by omega), up_ne (by omega), H1r 9 (by omega), up_eq]
    · rw [F130 10 (by omega) (by omega), A5]
    · rw [F9 11 (by omega), A9, z18, ← hF, up_at, if_neg (by omega), up_eq]
    · rw [F9 12 (by omega), F130 17 (by omega) (by omega), A10]
    · rw [F131, if_neg (by omega), if_neg (by omega), A6 j (by omega), mr 131 (by omega) (by omega) (by omega) (by omega)]
    · rw [Fr 132 (by omega) (by omega), A7 j hj, mr 132 (by omega) (by omega) (by omega) (by omega)]
    · have f30 : ∀ j, F 30 j = if j = 8 then 1 else if j = 7 then (s' : Int) else if j = 6 then (n' : Int) else H1 30 j := fun j => by
        rw [Fm 30 (by omega) (by omega) (by omega) (by omega) (by omega), up_ne (by omega), ← hh2, up_at, up_at, up_at]
      have f8 : F 30 8 = 1 := by rw [f30 8, if_pos rfl]
      have f7 : F 30 7 = (s' : Int) := by rw [f30 7, if_neg (by decide), if_pos rfl]
      have f6 : F 30 6 = (n' : Int) := by rw [f30 6, if_neg (by decide), if_neg (by decide), if_pos rfl]
      unfold TiR
      rw [f8, f6, f7]
      refine ⟨Or.inr rfl, ?_, by omega, by omega, fun _ => ⟨fun r h1 h2 => ?_, fun r h1 h2 => ?_⟩⟩
      · rw [if_pos rfl]
        show F 131 (0 + 8) = _
        rw [Int.zero_add, F131, if_neg (by omega), if_pos rfl]
      · have := StR_of (d6 r h1 h2) ns h1 h2
        rw [hcN, F3x (30 + 1) (by omega) (by omega) r h1 h2, F3x (30 + 2) (by omega) (by omega) r h1 h2, F3x (30 + 3) (by omega) (by omega) r h1 h2, F3x (30 + 4) (by omega) (by omega) r h1 h2, F3x (30 + 5) (by omega) (by omega) r h1 h2, F3x (30 + 6) (by omega) (by omega) r h1 h2]
        have z : ∀ j, 0 ≤ j → j ≤ 5 → F 131 (0 + (46 + 6 * r + j)) = gM 131 (1702 + 6 * r + j) := fun j a b => by
          rw [F131, if_pos (by omega), show 1656 + (0 + (46 + 6 * r + j)) = 1702 + 6 * r + j by omega]
        have z0 := z 0 (by omega) (by omega)
        rw [Int.add_zero, Int.add_zero] at z0
        dsimp only
        rw [z0, z 1 (by omega) (by omega), z 2 (by omega) (by omega), z 4 (by omega) (by omega), z 5 (by omega) (by omega)]
        exact this
      · obtain ⟨j1, j2, j3⟩ := ns r h1 h2
        have e31 : ∀ j, 0 ≤ j → j < (n' : Int) → F (30 + 1) j = gT2 49 j := fun j a b => F3x 31 (by omega) (by omega) j a b
        have e36 : ∀ j, 0 ≤ j → j < (n' : Int) → F (30 + 6) j = gT2 54 j := fun j a b => F3x 36 (by omega) (by omega) j a b
        rw [e31 r h1 h2, e36 r h1 h2]
        refine ⟨fun z => ?_, fun z => ?_, fun o a b z1 z2 z3 => ?_⟩
        · obtain ⟨u1, u2, u3, u4⟩ := j1 z
          rw [e31 _ (by omega) u2, e36 _ (by omega) u2]
          exact ⟨u1, u2, u3, u4⟩
        · obtain ⟨u1, u2, u3, u4⟩ := j2 z
          rw [e31 _ u1 (by omega), e36 _ u1 (by omega)]
          exact ⟨u1, u2, u3, u4⟩
        · rw [e31 o a (by omega)] at z1
          rw [e36 o a (by omega)] at z2 ⊢
          exact j3 o a b z1 z2 z3
  · have hTE : C xs d 13 0 [mR 0, mI (n : Int)] h = some ([mI (-1)], upM (upM gT 9 2 0) 0 0 9) := by
      refine preT _ ?_
      rw [if_pos rfl]
      refine cI_of (c_T_refuse xs d _ _) ?_
      rfl
    have mr : ∀ a, a ≠ 0 → a ≠ 9 → (a < 37 ∨ 55 < a) → upM (upM gT 9 2 0) 0 0 9 a = h a := fun a z0 z9 z37 => by rw [up_row z0, up_row z9, a1 a z9 z37]
    obtain ⟨b', gT', gM, x2, t1', m1, A, -⟩ := sim (upM (upM gT 9 2 0) 0 0 9) (by rw [mr 130 (by omega) (by omega) (by omega)]) (mr 136 (by omega) (by omega) (by omega)) (mr 131 (by omega) (by omega) (by omega)) (mr 132 (by omega) (by omega) (by omega))
    rw [t1] at t1'
    obtain ⟨rfl, rfl⟩ : (0 : Int) = b' ∧ gT = gT' := by
      have := Option.some.inj t1'
      injection this with e1 e2
      injection e1 with e3
      injection e3 with e4
      exact ⟨e4, e2⟩
    obtain ⟨-, -, A3, A4, A5, A6, A7, -, A9, A10, -, A12⟩ := A
    have z18 := A12 rfl
    generalize hF : upM (upM gM 130 16 (gM 130 18)) 130 2 9 = F
    have Fr : ∀ a, a ≠ 130 → F a = gM a := fun a z1 => by rw [← hF, up_row z1, up_row z1]
    have F130 : ∀ j, j ≠ 2 → j ≠ 16 → F 130 j = gM 130 j := fun j z1 z2 => by rw [← hF, up_at, if_neg z1, up_at, if_neg z2]
    have Fm : ∀ a, a ≠ 130 → a ≠ 131 → a ≠ 132 → a ≠ 137 → a ≠ 138 → F a = upM (upM gT 9 2 0) 0 0 9 a := fun a z1 z2 z3 z4 z5 => by rw [Fr a z1, A3 a z1 z2 z3 z4 z5]
    have F9 : F 9 = upM gT 9 2 0 9 := by rw [Fm 9 (by omega) (by omega) (by omega) (by omega) (by omega), up_row (by omega)]
    have FT : ∀ a, a ≠ 0 → a ≠ 9 → (a < 37 ∨ 55 < a) → a ≠ 130 → a ≠ 131 → a ≠ 132 → a ≠ 137 → a ≠ 138 → F a = h a := fun a z0 z9 z37 y1 y2 y3 y4 y5 => by rw [Fm a y1 y2 y3 y4 y5, mr a z0 z9 z37]
    have F131 : ∀ j, j < 1656 → F 131 j = h 131 j := fun j hj => by rw [Fr 131 (by omega), A6 j hj, mr 131 (by omega) (by omega) (by omega)]
    refine fin (-1) 9 _ F hTE (by rw [m1, m_timesBad _ _ z18, hF]) (fun a z0 z9 z30 z37 y1 y2 y3 y4 y5 => FT a z0 z9 z37 y1 y2 y3 y4 y5) (fun j hj => ?_) ?_ ?_ (fun j hj z2 => ?_) ?_ ?_ ?_ ?_ (fun j hj => F131 j (by omega)) (fun j hj => ?_) ?_
    · rw [Fm 0 (by omega) (by omega) (by omega) (by omega) (by omega), up_at, if_neg hj, up_ne (by omega), a1 0 (by omega) (by omega)]
    · rw [Fm 0 (by omega) (by omega) (by omega) (by omega) (by omega), up_eq]
    · rw [← hF, up_eq]
    · rw [F130 j z2 (by omega), A4 j (by omega), mr 130 (by omega) (by omega) (by omega)]
    · rw [F9, up_eq]
    · rw [F130 10 (by omega) (by omega), A5]
    · rw [F9, up_at, if_neg (by omega), A9, ← hF, up_at, if_neg (by omega), up_eq]
    · rw [F9, up_at, if_neg (by omega), F130 17 (by omega) (by omega), A10]
    · rw [Fr 132 (by omega), A7 j hj, mr 132 (by omega) (by omega) (by omega)]
    · exact k.2.2.2.2.2.mv (fun a z1 z2 => FT a (by omega) (by omega) (by omega) (by omega) (by omega) (by omega) (by omega) (by omega)) (fun j hj => F131 _ (by omega))
end
