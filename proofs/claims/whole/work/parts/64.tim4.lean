/-! EQUIV 34: ends; all steps of times -/
section
variable {xs : List Int} {d : Nat} {hT hM : mM} {tx : Nat → Int} {N : Nat} {gT gM : mM} {k : Tk} {f e : Nat} {cN n s D : Nat}
theorem p_tend (S : RdS hT hM tx N k f e gT gM) (T : TsI cN n s D gT gM) (hk : tWd k = 22) : OutT hT hM tx N f cN (C xs d 326 0 [mR 47, mR 12] gT) (C xs d 124 0 [mR 130] gM) := by
  have R := S.wd
  obtain ⟨z4, z0⟩ := wd_4 (k := k) (by omega)
  obtain ⟨⟨a1, a2, a3⟩, ⟨a4, a5, a6⟩, ⟨b1, b2, b3⟩, a8, a9, a10⟩ := id T
  unfold WdR at R
  have hm : mWd k = 20 := by omega
  have i6 : inI (6 * (n : Int)) := by unfold inI; omega
  have i7 : inI (1702 + 6 * (n : Int)) := by unfold inI; omega
  have mu : ∀ r, X xs d k_M_timeStep 24 [mR 130, mI 20, mI (n : Int), mI (1702 + 6 * (n : Int)), mC 0, mC 0] [mI 0] gM = r → C xs d 124 0 [mR 130] gM = r := by
    intro r hr
    rw [c_M_timeStep]
    refine cI_of (S.wM) ?_
    rw [hm, a4, if_pos i6, if_pos i7, if_neg (by decide), if_neg (by decide)]
    exact hr
  have pass : ∀ {o : Option (List mv × mM)} {v : Int} {g : mM}, (v = 0 ∨ v = 1) → o = some ([mI v], g) → cI o (fun v4 h4 => (if 0 ≤ v4 ∧ v4 ≤ 1 then some ([mI v4], h4) else none)) = some ([mI v], g) := fun hv ho => by
    rw [ho]
    refine cI_of rfl ?_
    rw [if_pos (by omega)]
  have tu : ∀ {v : Int} {g : mM}, (v = 0 ∨ v = 1) → C xs d 327 0 [mR 47] gT = some ([mI v], g) → C xs d 326 0 [mR 47, mR 12] gT = some ([mI v], g) := fun hv ho => by
    rw [c_TR_readStep, S.w9, hk, if_pos rfl]
    exact pass hv ho
  by_cases none : D = 0
  · subst none
    refine Or.inr ⟨_, _, tu (Or.inl rfl) ?_, mu _ ?_, S.fault (why := 2) (by omega)⟩
    · rw [c_TR_readEnd, a3, if_pos (by decide)]
      exact pass (Or.inl rfl) (S.oT 2)
    · rw [e_M_timeStep_24, if_neg (by decide), if_neg (by decide), if_pos rfl, a6, if_pos (show ((0 : Nat) : Int) = 0 from rfl)]
      exact pass (Or.inl rfl) (S.oM 2)
  -- the reference's row
  have mrow := m_rowUp (xs := xs) (d := d) (m := 20) (x4 := 0) (gM := gM) (n := n) (s := s) (by omega) a4 a5 b2
  rw [if_pos rfl, Int.add_zero] at mrow
  obtain ⟨mA, hmA⟩ : ∃ mA, nrM (upM gM 130 23 (s : Int)) (n : Int) (1702 + 6 * (n : Int)) 20 = mA := ⟨_, rfl⟩
  rw [hmA] at mrow
  have SB : RdS hT hM tx N k f e gT mA := by
    rw [← hmA]
    exact (S.u130 (by omega)).nrm (by omega)
  obtain ⟨g1, m1, k1, f1, e1, r1, r2, S1, r4, r5, r6⟩ := nxt (xs := xs) (d := d) SB z4
  have ff1 := r4 z0
  have mA0 : mA 131 (1702 + 6 * (n : Int)) = 20 := by rw [← hmA]; exact nrM_0 (by omega)
  have mAn : mA 131 1664 = (n : Int) + 1 := by rw [← hmA]; exact nrM_n
  have mAo : ∀ j, j ≠ 1664 → (j < 1702 + 6 * (n : Int) ∨ 1702 + 6 * (n : Int) + 5 < j) → mA 131 j = gM 131 j := fun j h1 h2 => by rw [← hmA, nrM_o h1 h2, up_ne (by omega)]
  have mAr : ∀ a, a ≠ 130 → a ≠ 131 → mA a = gM a := fun a h1 h2 => by rw [← hmA, nrM_r h2, up_row h1]
  have mA23 : mA 130 23 = (s : Int) := by rw [← hmA, nrM_r (by omega), up_eq]
  have mA22 : mA 130 22 = (D : Int) := by rw [← hmA, nrM_r (by omega), up_at, if_neg (by omega)]; exact a6
  obtain ⟨b, hb⟩ : ∃ b, gT 55 ((D : Int) - 1) = b := ⟨_, rfl⟩
  have bq := a9.1 ((D : Int) - 1) (by omega) (by omega)
  rw [hb] at bq
  obtain ⟨⟨q1, q2⟩, q3, q4⟩ := bq
  have q22 : gT 49 b ≠ 22 := by unfold opn at q3; omega
  have g155 : g1 55 ((D : Int) - 1) = b := by rw [r5.1 55 (by omega)]; exact hb
  have g147 : g1 47 3 = (D : Int) := by rw [r5.1 47 (by omega)]; exact a3
  have m122 : m1 130 22 = (D : Int) := by rw [r6.2 22 (by omega)]; exact mA22
  have m138 : m1 138 ((D : Int) - 1) = b := by rw [r6.1 138 (by omega), mAr 138 (by omega) (by omega), a8 _ (by omega) (by omega)]; exact hb
  have tadd := t_addRow (xs := xs) (d := d) (gT := upM g1 47 3 ((D : Int) - 1)) (n := n) (s := s) (t := 22) (by rw [up_ne (by omega), r5.1 48 (by omega)]; exact a1) (by rw [up_ne (by omega), r5.1 48 (by omega)]; exact a2) (by omega) b2
  rw [if_pos rfl] at tadd
  obtain ⟨g2, hg2⟩ : ∃ g2, upM (upM (nrT (upM g1 47 3 ((D : Int) - 1)) (n : Int) 22) 54 (n : Int) b) 54 b (n : Int) = g2 := ⟨_, rfl⟩
  obtain ⟨m2, hm2⟩ : ∃ m2, upM (upM (upM m1 130 22 ((D : Int) - 1)) 131 (1702 + 6 * (n : Int) + 4) b) 131 (1702 + 6 * b + 4) (n : Int) = m2 := ⟨_, rfl⟩
  have S2 : RdS hT hM tx N k1 f1 e1 g2 m2 := by
    rw [← hg2, ← hm2]
    exact (((((S1.uT (by omega)).nr.uT (by omega)).uT (by omega)).u130 (by omega)).uM (by omega)).uM (by omega)
  have tend : ∀ {v : Int} {g : mM}, (v = 0 ∨ v = 1) → C xs d 307 0 [mR 9] g2 = some ([mI v], g) → C xs d 326 0 [mR 47, mR 12] gT = some ([mI v], g) := fun hv ho => by
    refine tu hv ?_
    rw [c_TR_readEnd, a3, if_neg (by omega)]
    refine cV_of (r1) ?_
    rw [g147, g155]
    refine if_y (by omega) ?_
    refine if_y (by omega) ?_
    refine cI_of (tadd) ?_
    refine if_y (by omega) ?_
    refine if_y (by omega) ?_
    rw [hg2]
    exact pass hv ho
  have mend : ∀ {v : Int} {g : mM}, (v = 0 ∨ v = 1) → C xs d 103 0 [mR 130, mI 59] m2 = some ([mI v], g) → C xs d 124 0 [mR 130] gM = some ([mI v], g) := fun hv ho => by
    refine mu _ ?_
    rw [e_M_timeStep_24, if_neg (by decide), if_neg (by decide), if_pos rfl, a6, if_neg (by omega), e_M_timeStep_41, if_pos rfl, e_M_timeStep_52, if_pos rfl, mrow]
    refine cV_of (r2) ?_
    refine cI_of (v := 1) (h := m1) ?_ ?_
    · rw [c_M_timeOrder, if_neg (by decide), if_neg (by decide), if_neg (by decide), if_neg (by decide), if_neg (by decide), if_neg (by decide), if_neg (by decide)]
    rw [if_neg (by decide), if_pos rfl, e_M_timeStep_123, if_pos rfl, m122, m138]
    refine if_y (by omega) ?_
    refine if_y (by omega) ?_
    refine if_y (by omega) ?_
    refine if_y (by omega) ?_
    refine if_y (by omega) ?_
    refine if_y (by omega) ?_
    refine if_y (by omega) ?_
    refine if_y (by omega) ?_
    refine if_y (by omega) ?_
    rw [hm2]
    exact pass hv ho
  have T2 : TsI cN (n + 1) s (D - 1) g2 m2 := by
    have w : ∀ a, a ≠ 9 → a ≠ 47 → (a < 48 ∨ 54 < a) → g2 a = gT a := fun a h1 h2 h3 => by rw [← hg2, up_row (by omega), up_row (by omega), nrT_r h3, up_row h2, r5.1 a h1]
    have q49 : ∀ j, g2 49 j = if j = (n : Int) then 22 else gT 49 j := fun j => by
      rw [← hg2, up_ne (by omega), up_ne (by omega)]
      by_cases z : j = (n : Int)
      · rw [if_pos z, z, nrT_49]
      · rw [if_neg z, nrT_ne (by omega) z, up_ne (by omega), r5.1 49 (by omega)]
    have q54 : ∀ j, g2 54 j = if j = b then (n : Int) else if j = (n : Int) then b else gT 54 j := fun j => by
      rw [← hg2, up_at, up_at]
      by_cases y : j = b
      · rw [if_pos y, if_pos y]
      rw [if_neg y, if_neg y]
      by_cases z : j = (n : Int)
      · rw [if_pos z, if_pos z]
      · rw [if_neg z, if_neg z, nrT_ne (by omega) z, up_ne (by omega), r5.1 54 (by omega)]
    have q5x : ∀ a j, 49 ≤ a → a ≤ 53 → j ≠ (n : Int) → g2 a j = gT a j := fun a j h1 h2 hj => by
      rw [← hg2, up_ne (by omega), up_ne (by omega), nrT_ne (by omega) hj, up_ne (by omega), r5.1 a (by omega)]
    have m131 : ∀ j, m2 131 j = if j = 1702 + 6 * b + 4 then (n : Int) else if j = 1702 + 6 * (n : Int) + 4 then b else mA 131 j := fun j => by
      rw [← hm2, up_at, up_at, up_ne (by omega), r6.1 131 (by omega)]
    refine ⟨⟨?_, ?_, ?_⟩, ⟨?_, ?_, ?_⟩, ⟨by omega, b2, by omega⟩, fun j h1 h2 => ?_, ?_, fun r h1 h2 => ?_⟩
    · rw [← hg2, up_ne (by omega), up_ne (by omega), nrT_48, if_pos rfl]; omega
    · rw [← hg2, up_ne (by omega), up_ne (by omega), nrT_48, if_neg (by omega), up_ne (by omega), r5.1 48 (by omega)]; exact a2
    · rw [← hg2, up_ne (by omega), up_ne (by omega), nrT_r (by omega), up_eq]; omega
    · rw [m131, if_neg (by omega), if_neg (by omega), mAn]; omega
    · rw [← hm2, up_ne (by omega), up_ne (by omega), up_at, if_neg (by omega), r6.2 23 (by omega)]; exact mA23
    · rw [← hm2, up_ne (by omega), up_ne (by omega), up_eq]; omega
    · rw [← hm2, up_ne (by omega), up_ne (by omega), up_ne (by omega), r6.1 138 (by omega), mAr 138 (by omega) (by omega), w 55 (by omega) (by omega) (by omega)]
      exact a8 j h1 (by omega)
    · have := a9.pop (tw' := g2 49) (tq' := g2 54) (op' := g2 55) (by omega) (by omega) hb (fun j h1 h2 => by rw [q49, if_neg (by omega)]) (fun j h1 h2 h3 => by rw [q54, if_neg h3, if_neg (by omega)]) (fun j h1 h2 => by rw [w 55 (by omega) (by omega) (by omega)]) (by rw [q49, if_pos rfl]) (by rw [q54, if_neg (by omega), if_pos rfl]) (by rw [q54, if_pos rfl])
      rw [show ((n + 1 : Nat) : Int) = (n : Int) + 1 by omega, show ((D - 1 : Nat) : Int) = (D : Int) - 1 by omega]
      exact this
    · by_cases z : r = (n : Int)
      · subst z
        refine ⟨Or.inl ⟨by rw [q49, if_pos rfl], ?_⟩, fun _ => ?_⟩
        · rw [m131, if_neg (by omega), if_neg (by omega)]; exact mA0
        · rw [q54, if_neg (by omega), if_pos rfl, m131, if_neg (by omega), if_pos rfl]
      · have R0 := a10 r h1 (by omega)
        have mo : ∀ j, 0 ≤ j → j ≤ 5 → j ≠ 4 → m2 131 (1702 + 6 * r + j) = gM 131 (1702 + 6 * r + j) := fun j h3 h4 h5 => by
          rw [m131, if_neg (by omega), if_neg (by omega)]
          exact mAo _ (by omega) (by omega)
        by_cases y : r = b
        · refine ⟨Or.inr ?_, fun _ => ?_⟩
          · rcases R0.1 with u | ⟨u1, u2⟩
            · rw [y] at u
              exact absurd u.1 q22
            · have m0 := mo 0 (by omega) (by omega) (by omega)
              rw [Int.add_zero] at m0
              rw [q49, if_neg z]
              refine ⟨u1, ?_⟩
              unfold RoA at u2 ⊢
              rw [q5x 50 r (by omega) (by omega) z, q5x 51 r (by omega) (by omega) z, q5x 52 r (by omega) (by omega) z, q5x 53 r (by omega) (by omega) z, m0, mo 1 (by omega) (by omega) (by omega), mo 2 (by omega) (by omega) (by omega), mo 5 (by omega) (by omega) (by omega)]
              exact u2
          · rw [q54, if_pos y, m131, if_pos (by omega)]
        · refine R0.mv (fun a x1 x2 => ?_) (fun j x1 x2 => ?_)
          · by_cases a54 : a = 54
            · rw [a54, q54, if_neg y, if_neg z]
            · exact q5x a r x1 (by omega) z
          · by_cases j4 : j = 4
            · rw [j4, m131, if_neg (by omega), if_neg (by omega)]
              exact mAo _ (by omega) (by omega)
            · exact mo j x1 x2 j4
  rcases p_semi (xs := xs) (d := d) S2 with ⟨g9, m9, k9, f9, e9, j1, j2, S9, j4, j5, j6⟩ | ⟨g9, m9, j1, j2, j3⟩
  · exact Or.inl ⟨g9, m9, k9, f9, e9, n + 1, s, D - 1, tend (Or.inr rfl) j1, mend (Or.inr rfl) j2, S9, by omega, T2.fr j5 j6⟩
  · exact Or.inr ⟨g9, m9, tend (Or.inl rfl) j1, mend (Or.inl rfl) j2, j3⟩
theorem p_tpart (S : RdS hT hM tx N k f e gT gM) (P : PeR cN hT hM) (T : TsI cN n s D gT gM) : OutT hT hM tx N f cN (C xs d 326 0 [mR 47, mR 12] gT) (C xs d 124 0 [mR 130] gM) := by
  have R := S.wd
  unfold WdR at R
  by_cases z1 : tWd k = 22
  · exact p_tend S T z1
  by_cases z2 : 14 ≤ tWd k ∧ tWd k ≠ 20
  · exact p_tstep S P T ⟨z2.1, by omega, z2.2, z1⟩
  obtain ⟨⟨a1, a2, a3⟩, ⟨a4, a5, a6⟩, ⟨b1, b2, b3⟩, a8, a9, a10⟩ := id T
  have i6 : inI (6 * (n : Int)) := by unfold inI; omega
  have i7 : inI (1702 + 6 * (n : Int)) := by unfold inI; omega
  refine Or.inr ⟨_, _, ?_, ?_, S.fault (why := 2) (by omega)⟩
  · rw [c_TR_readStep, S.w9, if_neg z1]
    by_cases y : tWd k < 14
    · rw [if_pos y]
      refine cI_of (S.oT 2) ?_
      rfl
    · rw [if_neg y, if_pos (by omega)]
      refine cI_of (S.oT 2) ?_
      rfl
  · rw [c_M_timeStep]
    refine cI_of (S.wM) ?_
    rw [a4, if_pos i6, if_pos i7, if_neg (by omega), if_neg (by omega), e_M_timeStep_24]
    by_cases y : mWd k < 13
    · rw [if_pos y]
      refine cI_of (S.oM 2) ?_
      rfl
    · rw [if_neg y, if_pos (by omega)]
      refine cI_of (S.oM 2) ?_
      rfl
theorem p_tparts (P : PeR cN hT hM) (hN3 : N ≤ 300) (x1 : Int) : ∀ (m i : Nat) (k : Tk) (f e : Nat) (gT gM : mM) (n s D : Nat), N < f + m → i ≤ f → RdS hT hM tx N k f e gT gM → TsI cN n s D gT gM → (∃ gT' gM' n' s', X xs d k_TR_readTimes 12 [mR 47, mI x1, mR 12, mI (i : Int)] [] gT = some ([mI 1], upM gT' 48 8 1) ∧ X xs d k_M_times 22 [mR 130, mI x1, mI 1, mC 0] [] gM = X xs d k_M_times 41 [mR 130, mI x1, mI 1, mC 0] [] gM' ∧ FrT hT gT' ∧ FrM hM gM' ∧ (gT' 9 11 = 0 ∧ gT' 9 12 = -1) ∧ (gM' 130 18 = 0 ∧ gM' 130 17 = -1) ∧ TsI cN n' s' 0 gT' gM') ∨ (∃ gT' gM' x2, X xs d k_TR_readTimes 12 [mR 47, mI x1, mR 12, mI (i : Int)] [] gT = some ([mI 0], gT') ∧ X xs d k_M_times 22 [mR 130, mI x1, mI 1, mC 0] [] gM = X xs d k_M_times 41 [mR 130, mI x1, mI x2, mC 0] [] gM' ∧ Flt hT hM gT' gM') := by
  intro m
  induction m with
  | zero =>
    intro i k f e gT gM n s D hm hi S T
    have := S.2.2.2.2.2.1.2.1
    omega
  | succ m ih =>
    intro i k f e gT gM n s D hm hi S T
    have fN := S.2.2.2.2.2.1.2.1
    have t5 : gT 9 5 = k.1 := S.2.2.2.1.2.2.1
    have m12 : gM 130 12 = kdM k := S.2.2.2.2.1.2.2.1
    have m18 := S.2.2.2.2.2.2.2.2.1
    have kr := S.2.2.2.2.2.1.1
    rw [e_TR_readTimes_12, e_M_times_22, c_Tp_isAtEnd, t5, m12, if_neg (show ¬ (300 : Int) < (i : Int) by omega), if_neg (show ¬ (1 : Int) = 0 by decide)]
    by_cases z : k.1 = 0
    · have k0 : kdM k = 0 := by
        unfold kdM
        rw [if_neg (by omega), if_neg (by omega), if_neg (by omega), if_neg (by omega)]
      rw [if_pos z, if_pos k0, e_M_times_31, m18.1, T.2.1.2.2]
      by_cases d0 : D = 0
      · subst d0
        refine Or.inl ⟨gT, gM, n, s, ?_, ?_, S.2.2.2.2.2.2.2.2.2.1, S.2.2.2.2.2.2.2.2.2.2, S.2.2.2.2.2.2.2.1, m18, T⟩
        · refine cI_of rfl ?_
          rw [if_neg (by decide), e_TR_readTimes_27, T.1.2.2, if_pos (show ((0 : Nat) : Int) = 0 from rfl)]
        · rw [if_pos rfl, if_neg (by decide)]
      · have S' := S.uT (b := 48) (i := 8) (v := 1) (by omega)
        refine Or.inr ⟨_, _, 1, ?_, ?_, S'.fault (why := 2) (by omega)⟩
        · refine cI_of rfl ?_
          rw [if_neg (by decide), e_TR_readTimes_27, T.1.2.2, if_neg (by omega)]
          refine cI_of (S'.oT 2) ?_
          rfl
        · rw [if_pos rfl, if_pos (by omega)]
          refine cI_of (S.oM 2) ?_
          rfl
    · have k0 : kdM k ≠ 0 := by
        unfold kdM
        have : k.1 = 1 ∨ k.1 = 2 ∨ k.1 = 3 ∨ k.1 = 4 := by omega
        rcases this with y | y | y | y <;> simp [y]
      rw [if_neg z, if_neg k0]
      rcases p_tpart (xs := xs) (d := d) S P T with ⟨g1, m1, k1, f1, e1, n1, s1, D1, u1, u2, u3, u4, u5⟩ | ⟨g1, m1, u1, u2, u3⟩
      · have gT' : ∀ r, X xs d k_TR_readTimes 12 [mR 47, mI x1, mR 12, mI ((i + 1 : Nat) : Int)] [] g1 = r → cI (some ([mI 0], gT)) (fun v1 h1 => (if v1 = (0 : Int) then cI (C xs d 326 0 [mR 47, mR 12] h1) (fun v2 h2 => (if v2 = (0 : Int) then some ([mI 0], h2) else (if inI ((i : Int) + 1) then X xs d k_TR_readTimes 12 [mR 47, mI x1, mR 12, mI ((i : Int) + 1)] [] h2 else none))) else X xs d k_TR_readTimes 27 [mR 47, mI x1, mR 12, mI (i : Int)] [] h1)) = r := fun r hr => by
          refine cI_of rfl ?_
          rw [if_pos rfl]
          refine cI_of (u1) ?_
          rw [if_neg (by decide)]
          refine if_y (by omega) ?_
          exact hr
        rcases ih (i + 1) k1 f1 e1 g1 m1 n1 s1 D1 (by omega) (by omega) u3 u5 with ⟨g2, m2, n2, s2, v1, v2, v3⟩ | ⟨g2, m2, x2, v1, v2, v3⟩
        · refine Or.inl ⟨g2, m2, n2, s2, gT' _ v1, ?_, v3⟩
          rw [u2]
          exact cI_of rfl v2
        · refine Or.inr ⟨g2, m2, x2, gT' _ v1, ?_, v3⟩
          rw [u2]
          exact cI_of rfl v2
      · refine Or.inr ⟨g1, m1, 0, ?_, ?_, u3⟩
        · refine cI_of rfl ?_
          rw [if_pos rfl]
          refine cI_of (u1) ?_
          rw [if_pos rfl]
        · rw [u2]
          refine cI_of rfl ?_
          have := u3.2.2.2.2
          rw [e_M_times_22, if_pos rfl, e_M_times_31, if_neg (by omega)]
end
