/-! EQUIV 27: people and toasts of a map -/
section
variable {xs : List Int} {d : Nat} {hT hM : mM} {tx : Nat → Int} {N : Nat} {gT gM : mM} {k : Tk} {f e : Nat} {c : Kc} {r : Nat}
theorem TpR.uT (P : TpR r gT gM) {b : Nat} (hb : b ≠ 37) {i v : Int} : TpR r (upM gT b i v) gM := ⟨P.1, by rw [up_ne (by omega)]; exact P.2.1, P.2.2⟩
theorem TpR.uM (P : TpR r gT gM) {b : Nat} (hb : b ≠ 130) {i v : Int} : TpR r gT (upM gM b i v) := ⟨P.1, P.2.1, by rw [up_ne (by omega)]; exact P.2.2⟩
abbrev neC (c : Kc) (x m w g : Int) : Kc := setC (setC (setC (coC c x) 4 (c 0 0) m) 5 (c 0 0) w) 6 (c 0 0) g
theorem neC_v {x m w g : Int} (f : Nat) (i : Int) : neC c x m w g f i = if f = 0 then c 0 0 + 1 else if i = c 0 0 ∧ 3 ≤ f then (if f = 3 then x else if f = 4 then m else if f = 5 then w else if f = 6 then g else -1) else c f i := by
  unfold neC setC coC
  by_cases h0 : f = 0
  · subst h0
    simp
  by_cases hi : i = c 0 0
  · by_cases h3 : 3 ≤ f
    · by_cases h6 : f = 6
      · subst h6; simp [hi]
      by_cases h5 : f = 5
      · subst h5; simp [hi]
      by_cases h4 : f = 4
      · subst h4; simp [hi]
      simp [h0, h6, h5, h4, hi, h3]
    · have a6 : f ≠ 6 := by omega
      have a5 : f ≠ 5 := by omega
      have a4 : f ≠ 4 := by omega
      simp [h0, a6, a5, a4, hi, h3]
  · simp [h0, hi]
theorem CoM_add {s s' : mM} (k : CoM c s) {x m w g : Int} (hn : 0 ≤ c 0 0) (e0 : s' 131 0 = c 0 0 + 1) (e7 : s' 131 7 = s 131 7) (er : ∀ i, 1 ≤ i → i ≤ 6 → s' 131 i = s 131 i) (ep : ∀ i, 10 ≤ i → i < 10 + 5 * c 0 0 → s' 131 i = s 131 i) (v0 : s' 131 (10 + 5 * c 0 0) = x) (v1 : s' 131 (10 + 5 * c 0 0 + 1) = m) (v2 : s' 131 (10 + 5 * c 0 0 + 2) = w) (v3 : s' 131 (10 + 5 * c 0 0 + 3) = g) (v4 : s' 131 (10 + 5 * c 0 0 + 4) = -1) : CoM (neC c x m w g) s' := by
  obtain ⟨k1, k2, k3, k4, k5, k6, k7, k8⟩ := k
  have n0 : neC c x m w g 0 0 = c 0 0 + 1 := by rw [neC_v, if_pos rfl]
  unfold CoM
  rw [n0]
  refine ⟨e0, ?_, fun i a b => ?_, fun i a b => ?_, fun i a b => ?_, fun i a b => ?_, fun i a b => ?_, fun i a b => ?_⟩
  · rw [e7, neC_v, if_neg (by omega), if_neg (by omega)]; exact k2
  · rw [er i a b, neC_v, if_neg (by omega), if_neg (by omega)]; exact k3 i a b
  · rw [neC_v, if_neg (by omega)]
    by_cases q : i = c 0 0
    · rw [if_pos ⟨q, by omega⟩, if_pos rfl, q, Int.add_zero]; exact v0
    · rw [if_neg (fun z => q z.1), ep _ (by omega) (by omega)]; exact k4 i a (by omega)
  · rw [neC_v, if_neg (by omega)]
    by_cases q : i = c 0 0
    · rw [if_pos ⟨q, by omega⟩, if_neg (by omega), if_pos rfl, q]; exact v1
    · rw [if_neg (fun z => q z.1), ep _ (by omega) (by omega)]; exact k5 i a (by omega)
  · rw [neC_v, if_neg (by omega)]
    by_cases q : i = c 0 0
    · rw [if_pos ⟨q, by omega⟩, if_neg (by omega), if_neg (by omega), if_pos rfl, q]; exact v2
    · rw [if_neg (fun z => q z.1), ep _ (by omega) (by omega)]; exact k6 i a (by omega)
  · rw [neC_v, if_neg (by omega)]
    by_cases q : i = c 0 0
    · rw [if_pos ⟨q, by omega⟩, if_neg (by omega), if_neg (by omega), if_neg (by omega), if_pos rfl, q]; exact v3
    · rw [if_neg (fun z => q z.1), ep _ (by omega) (by omega)]; exact k7 i a (by omega)
  · rw [neC_v, if_neg (by omega)]
    by_cases q : i = c 0 0
    · rw [if_pos ⟨q, by omega⟩, if_neg (by omega), if_neg (by omega), if_neg (by omega), if_neg (by omega), q]; exact v4
    · rw [if_neg (fun z => q z.1), ep _ (by omega) (by omega)]; exact k8 i a (by omega)
theorem DrR.cn (D : DrR c gT gM) : gM 131 1656 = c 0 0 := by
  have := D.2.1.n
  unfold shM at this
  rwa [Int.add_zero] at this
theorem p_person (S : RdS hT hM tx N k f e gT gM) (D : DrR c gT gM) (P : TpR r gT gM) (hk : tWd k = 7) : Out hT hM tx N f (C xs d 285 0 [mR 37] gT) (X xs d k_M_mapPart 26 [mR 130, mI 6] [] gM) := by
  obtain ⟨z4, z0⟩ := wd_4 (k := k) (by omega)
  have w := D.2.2.1
  have hn := w.1
  have cn := D.cn
  have tn : gT 38 0 = c 0 0 := D.1.n
  obtain ⟨n, hN⟩ : ∃ n : Nat, c 0 0 = (n : Int) := ⟨(c 0 0).toNat, by omega⟩
  -- the way to a fault
  have bad : ∀ {gT' gM' : mM}, C xs d 285 0 [mR 37] gT = some ([mI 0], gT') → C xs d 117 0 [mR 130] gM = some ([mI 0], gM') → Flt hT hM gT' gM' → Out hT hM tx N f (C xs d 285 0 [mR 37] gT) (X xs d k_M_mapPart 26 [mR 130, mI 6] [] gM) := fun a b c => Or.inr ⟨_, _, a, by rw [e_M_mapPart_26, if_pos rfl, b]; rfl, c⟩
  have rowE := fun g => m_personRow (xs := xs) (d := d) (h := g) (p := c 0 0) (by omega)
  by_cases full : c 0 0 = 7
  · refine bad ?_ ?_ (S.fault (why := 6) (by omega))
    · rw [c_MR_readPerson, c_Co_isFull xs d (by omega), tn, if_neg (by omega)]
      refine cI_of rfl ?_
      rw [if_neg (by decide)]
      refine cI_of (S.oT 6) ?_
      rfl
    · rw [c_M_aPerson, cn]
      refine cI_of (rowE gM) ?_
      refine if_y (by omega) ?_
      refine if_y (by omega) ?_
      refine cI_of (S.oM 6) ?_
      rfl
  obtain ⟨g1, m1, k1, f1, e1, r1, r2, S1, r4, r5, r6⟩ := nxt (xs := xs) (d := d) S z4
  have D1 := D.fr r5 r6
  have P1 := P.fr r5 r6
  have ff1 := r4 z0
  have preT : ∀ o, (if (g1 9 9) = (0 : Int) then cI (C xs d 231 0 [mR 38, mL (g1 9 10)] g1) (fun v3 h3 => (if v3 = (-1 : Int) then cV (C xs d 310 0 [mR 9] h3) (fun h4 => cI (C xs d 306 0 [mR 9, mI 8] h4) (fun v5 h5 => (if v5 = (0 : Int) then some ([mI 0], h5) else cI (C xs d 308 0 [mR 9, mI 0, mI 59] h5) (fun v6 h6 => (if v6 = (0 : Int) then some ([mI 0], h6) else cI (C xs d 304 0 [mR 9] h6) (fun v7 h7 => cI (C xs d 230 0 [mR 38, mI v7, mL (g1 9 10)] h7) (fun v8 h8 => cV (C xs d 310 0 [mR 9] h8) (fun h9 => cI (C xs d 286 0 [mR 37, mI 9, mR 41, mI v8, mI 9] h9) (fun v10 h10 => (if v10 = (0 : Int) then some ([mI 0], h10) else cI (C xs d 286 0 [mR 37, mI 10, mR 42, mI v8, mI 99] h10) (fun v11 h11 => (if v11 = (0 : Int) then some ([mI 0], h11) else cI (C xs d 286 0 [mR 37, mI 11, mR 43, mI v8, mI 9] h11) (fun v12 h12 => (if v12 = (0 : Int) then some ([mI 0], h12) else cI (C xs d 307 0 [mR 9] h12) (fun v13 h13 => (if v13 = (0 : Int) then some ([mI 0], h13) else some ([mI 1], h13))))))))))))))))) else cI (C xs d 305 0 [mR 9, mI 3] h3) (fun v14 h14 => (if 0 ≤ v14 ∧ v14 ≤ 1 then some ([mI v14], h14) else none)))) else cI (C xs d 305 0 [mR 9, mI 2] g1) (fun v15 h15 => (if 0 ≤ v15 ∧ v15 ≤ 1 then some ([mI v15], h15) else none))) = o → C xs d 285 0 [mR 37] gT = o := by
    intro o ho
    rw [c_MR_readPerson, c_Co_isFull xs d (by omega), tn, if_pos (by omega)]
    refine cI_of rfl ?_
    rw [if_pos rfl]
    refine cV_of (r1) ?_
    exact ho
  have cn1 : m1 131 1656 = c 0 0 := D1.cn
  have a0 : 1656 + (10 + 5 * c 0 0) = 1656 + (10 + 5 * (n : Int)) := by rw [hN]
  -- the reference behind its first token
  have preM : ∀ o, cI (C xs d 106 0 [mR 130, mC 6] m1) (fun v3 h3 => (if v3 = (0 : Int) then cI (C xs d 101 0 [mR 130, mI 2] h3) (fun v13 h13 => (if 0 ≤ v13 ∧ v13 ≤ 1 then some ([mI v13], h13) else none)) else cI (C xs d 108 0 [mR 130, mI 28, mI (c 0 0)] h3) (fun v4 h4 => (if v4 = (-1 : Int) then (if inI (28 + (c 0 0)) then cL (C xs d 107 0 [mR 130] h4) (fun v5 h5 => (if inA (28 + (c 0 0)) 42 then cV (C xs d 98 0 [mR 130] (upM h5 132 (28 + (c 0 0)) v5)) (fun h6 => cI (C xs d 104 0 [mR 130, mC 6, mI 8] h6) (fun v7 h7 => (if v7 = (0 : Int) then some ([mI 0], h7) else cI (C xs d 105 0 [mR 130, mI (1656 + (10 + 5 * c 0 0)), mI 0, mI 59] h7) (fun v8 h8 => (if v8 = (0 : Int) then some ([mI 0], h8) else cI (C xs d 114 0 [mR 130, mI 9, mI (1656 + (10 + 5 * c 0 0) + 1), mI 0, mI 9, mI 1] h8) (fun v9 h9 => (if v9 = (0 : Int) then some ([mI 0], h9) else cI (C xs d 114 0 [mR 130, mI 10, mI (1656 + (10 + 5 * c 0 0) + 2), mI 0, mI 99, mI 0] h9) (fun v10 h10 => (if v10 = (0 : Int) then some ([mI 0], h10) else cI (C xs d 114 0 [mR 130, mI 11, mI (1656 + (10 + 5 * c 0 0) + 3), mI 0, mI 9, mI 2] h10) (fun v11 h11 => (if v11 = (0 : Int) then some ([mI 0], h11) else (if inI (((upM h11 131 (1656 + (10 + 5 * c 0 0) + 4) (-1)) 131 1656) + 1) then some ([mI 1], (upM (upM h11 131 (1656 + (10 + 5 * c 0 0) + 4) (-1)) 131 1656 (((upM h11 131 (1656 + (10 + 5 * c 0 0) + 4) (-1)) 131 1656) + 1))) else none)))))))))))) else none)) else none) else cI (C xs d 101 0 [mR 130, mI 3] h4) (fun v12 h12 => (if 0 ≤ v12 ∧ v12 ≤ 1 then some ([mI v12], h12) else none)))))) = o → C xs d 117 0 [mR 130] gM = o := by
    intro o ho
    have i1 : inI (1656 + (10 + 5 * c 0 0) + 1) := by unfold inI; omega
    have i2 : inI (1656 + (10 + 5 * c 0 0) + 2) := by unfold inI; omega
    have i3 : inI (1656 + (10 + 5 * c 0 0) + 3) := by unfold inI; omega
    have i4 : inI (1656 + (10 + 5 * c 0 0) + 4) := by unfold inI; omega
    have i5 : inA (1656 + (10 + 5 * c 0 0) + 4) 2346 := by unfold inA; omega
    rw [c_M_aPerson, cn]
    refine cI_of (rowE gM) ?_
    refine if_y (by omega) ?_
    refine if_n (by omega) ?_
    refine cV_of (r2) ?_
    simp only [if_pos i1, if_pos i2, if_pos i3, if_pos i4, if_pos i5]
    exact ho
  by_cases q1 : tWd k1 = 0
  rotate_left
  · refine bad (preT _ ?_) (preM _ ?_) (S1.fault (why := 2) (by omega))
    · rw [S1.w9, if_neg q1]
      refine cI_of (S1.oT 2) ?_
      rfl
    · refine cI_of (S1.nM) ?_
      rw [if_pos (b2i_n q1)]
      refine cI_of (S1.oM 2) ?_
      rfl
  have tn1 : g1 38 0 = (n : Int) := by rw [D1.1.n, hN]
  have nm1 : NmR (g1 (38 + 7)) (fun p => m1 132 (((28 : Nat) : Int) + p)) (n : Int) := by rw [← hN]; exact D1.2.2.2.2.1
  have fM := m_findHere (xs := xs) (d := d) S1.2.1 S1.2.2.1 S1.2.2.2.2.1 S1.2.2.2.2.2.1 q1 (B := 28) (n := n) (by omega)
  have fT := t_named (xs := xs) (d := d) (g := g1) (Or.inr rfl) tn1 (by omega) (pk 32 0 k1.2.2 0)
  rw [find_eq S1.2.2.2.2.2.1 q1 nm1] at fM
  rw [show ((28 : Nat) : Int) = 28 from rfl, ← hN] at fM
  rcases fdI_bd (f := g1 (38 + 7)) (x := pk 32 0 k1.2.2 0) n 0 with q2 | ⟨q2, q3⟩
  rotate_left
  · refine bad (preT _ ?_) (preM _ ?_) (S1.fault (why := 3) (by omega))
    · rw [S1.w9, if_pos q1, S1.n10 q1]
      refine cI_of (fT) ?_
      refine if_n (by omega) ?_
      refine cI_of (S1.oT 3) ?_
      rfl
    · refine cI_of (S1.nM) ?_
      rw [if_neg (by rw [b2i_y q1]; decide)]
      refine cI_of (fM) ?_
      refine if_n (by omega) ?_
      refine cI_of (S1.oM 3) ?_
      rfl
  rw [q2] at fM fT
  obtain ⟨w1, w8⟩ := isName_k q1
  have lo := (tkW_ok S1.2.2.2.2.2.1 w1).1
  obtain ⟨g2, m2, k2, f2, e2, s1, s2, S2, s4, s5, s6⟩ := nxt (xs := xs) (d := d) (S1.uM (b := 132) (i := 28 + c 0 0) (v := pk 256 96 k1.2.2 0) (by omega)) (by omega)
  have ff2 := s4 (by omega)
  have ma : ∀ o, cI (C xs d 104 0 [mR 130, mC 6, mI 8] m2) (fun v7 h7 => (if v7 = (0 : Int) then some ([mI 0], h7) else cI (C xs d 105 0 [mR 130, mI (1656 + (10 + 5 * c 0 0)), mI 0, mI 59] h7) (fun v8 h8 => (if v8 = (0 : Int) then some ([mI 0], h8) else cI (C xs d 114 0 [mR 130, mI 9, mI (1656 + (10 + 5 * c 0 0) + 1), mI 0, mI 9, mI 1] h8) (fun v9 h9 => (if v9 = (0 : Int) then some ([mI 0], h9) else cI (C xs d 114 0 [mR 130, mI 10, mI (1656 + (10 + 5 * c 0 0) + 2), mI 0, mI 99, mI 0] h9) (fun v10 h10 => (if v10 = (0 : Int) then some ([mI 0], h10) else cI (C xs d 114 0 [mR 130, mI 11, mI (1656 + (10 + 5 * c 0 0) + 3), mI 0, mI 9, mI 2] h10) (fun v11 h11 => (if v11 = (0 : Int) then some ([mI 0], h11) else (if inI (((upM h11 131 (1656 + (10 + 5 * c 0 0) + 4) (-1)) 131 1656) + 1) then some ([mI 1], (upM (upM h11 131 (1656 + (10 + 5 * c 0 0) + 4) (-1)) 131 1656 (((upM h11 131 (1656 + (10 + 5 * c 0 0) + 4) (-1)) 131 1656) + 1))) else none))))))))))) = o → C xs d 117 0 [mR 130] gM = o := by
    intro o ho
    refine preM o ?_
    refine cI_of (S1.nM) ?_
    rw [if_neg (by rw [b2i_y q1]; decide)]
    refine cI_of (fM) ?_
    rw [if_pos rfl]
    refine if_y (by omega) ?_
    refine cL_of (S1.nH q1) ?_
    refine if_y (by omega) ?_
    refine cV_of (s2) ?_
    exact ho
  have ta : ∀ o, cI (C xs d 306 0 [mR 9, mI 8] g2) (fun v5 h5 => (if v5 = (0 : Int) then some ([mI 0], h5) else cI (C xs d 308 0 [mR 9, mI 0, mI 59] h5) (fun v6 h6 => (if v6 = (0 : Int) then some ([mI 0], h6) else cI (C xs d 304 0 [mR 9] h6) (fun v7 h7 => cI (C xs d 230 0 [mR 38, mI v7, mL (pk 32 0 k1.2.2 0)] h7) (fun v8 h8 => cV (C xs d 310 0 [mR 9] h8) (fun h9 => cI (C xs d 286 0 [mR 37, mI 9, mR 41, mI v8, mI 9] h9) (fun v10 h10 => (if v10 = (0 : Int) then some ([mI 0], h10) else cI (C xs d 286 0 [mR 37, mI 10, mR 42, mI v8, mI 99] h10) (fun v11 h11 => (if v11 = (0 : Int) then some ([mI 0], h11) else cI (C xs d 286 0 [mR 37, mI 11, mR 43, mI v8, mI 9] h11) (fun v12 h12 => (if v12 = (0 : Int) then some ([mI 0], h12) else cI (C xs d 307 0 [mR 9] h12) (fun v13 h13 => (if v13 = (0 : Int) then some ([mI 0], h13) else some ([mI 1], h13)))))))))))))))) = o → C xs d 285 0 [mR 37] gT = o := by
    intro o ho
    refine preT o ?_
    rw [S1.w9, if_pos q1, S1.n10 q1]
    refine cI_of (fT) ?_
    rw [if_pos rfl]
    refine cV_of (s1) ?_
    exact ho
  rcases p_word (xs := xs) (d := d) S2 (t := 8) (m := 8) (by omega) (by unfold WdR; omega) with ⟨g3, m3, k3, f3, e3, t1, t2, S3, t4, t5, t6⟩ | ⟨g3, m3, t1, t2, t3⟩
  rotate_left
  · refine bad (ta _ ?_) (ma _ ?_) t3
    · refine cI_of (t1) ?_
      rfl
    · refine cI_of (t2) ?_
      rfl
  have tN := t_isNumber (xs := xs) (d := d) S3.2.2.2.1 0 59
  have mN := m_number (xs := xs) (d := d) S3.2.2.2.2.1 S3.2.2.2.2.2.2.2.2.1.1 (a := 1656 + (10 + 5 * c 0 0)) 0 59 (by omega)
  by_cases q4 : k3.1 = 2 ∧ 0 ≤ k3.2.1 ∧ k3.2.1 ≤ 59
  rotate_left
  · rw [if_neg q4] at tN mN
    refine bad (ta _ ?_) (ma _ ?_) (S3.fault (why := if k3.1 = 2 then 4 else 2) (by split <;> omega))
    · refine cI_of (t1) ?_
      rw [if_neg (by decide)]
      refine cI_of (tN) ?_
      rfl
    · refine cI_of (t2) ?_
      rw [if_neg (by decide)]
      refine cI_of (mN) ?_
      rfl
  rw [if_pos q4] at tN mN
  -- up to here the drafts stand as they stood
  have D3 : DrR c g3 (upM m3 132 (28 + c 0 0) (pk 256 96 k1.2.2 0)) := by
    refine (DrR.fr (gT' := g3) (gM' := upM m3 132 (28 + c 0 0) (pk 256 96 k1.2.2 0)) (gT := g2) (gM := m2) ?_ t5 (by
      have : upM m3 132 (28 + c 0 0) (pk 256 96 k1.2.2 0) = m3 := up_same (by rw [t6.1 132 (by omega), s6.1 132 (by omega), up_eq])
      rw [this]
      exact t6))
    refine DrR.fr (gT := g1) (gM := upM m1 132 (28 + c 0 0) (pk 256 96 k1.2.2 0)) ?_ s5 s6
    obtain ⟨a1, a2, a3, a4, a5, a6⟩ := D1
    refine ⟨a1, ?_, a3, a4, ?_, by rw [up_ne (by omega)]; exact a6⟩
    · have : shM (upM m1 132 (28 + c 0 0) (pk 256 96 k1.2.2 0)) = shM m1 := by unfold shM; rw [up_row (show (131 : Nat) ≠ 132 by omega)]
      rw [this]; exact a2
    · exact a5.mv (fun _ _ _ => rfl) (fun p h1 h2 => by rw [up_at, if_neg (by omega)])
  have m3n : m3 132 (28 + c 0 0) = pk 256 96 k1.2.2 0 := by rw [t6.1 132 (by omega), s6.1 132 (by omega), up_eq]
  rw [up_same m3n] at D3
  have P3 : TpR r g3 m3 := ((P1.uM (b := 132) (i := 28 + c 0 0) (v := pk 256 96 k1.2.2 0) (by omega)).fr s5 s6).fr t5 t6
  obtain ⟨b1, b2, b3, b4, b5, b6⟩ := D3
  have S3a : RdS hT hM tx N k3 f3 e3 (adT g3 38 (c 0 0) k3.2.1 (pk 32 0 k1.2.2 0)) (upM m3 131 (1656 + (10 + 5 * c 0 0)) k3.2.1) := by
    unfold adT
    exact (((((((S3.uT (by omega)).uT (by omega)).uT (by omega)).uT (by omega)).uT (by omega)).uT (by omega)).uT (by omega)).uM (by omega)
  obtain ⟨g4, m4, k4, f4, e4, u1, u2, S4, u4, u5, u6⟩ := nxt (xs := xs) (d := d) S3a (by omega)
  rw [u2] at mN
  have ff4 := u4 (by omega)
  have tadd := t_add (xs := xs) (d := d) (Or.inr rfl) b1 ⟨hn.1, by omega⟩ k3.2.1 (pk 32 0 k1.2.2 0)
  have ad41 : ∀ h : mM, ∀ x nm : Int, adT h 38 (c 0 0) x nm 41 (c 0 0) = 1 ∧ adT h 38 (c 0 0) x nm 42 (c 0 0) = 0 ∧ adT h 38 (c 0 0) x nm 43 (c 0 0) = 2 := fun h x nm => by
    unfold adT
    refine ⟨?_, ?_, ?_⟩
    · rw [up_ne (by omega), up_ne (by omega), up_ne (by omega), up_ne (by omega), up_ne (by omega), up_eq]
    · rw [up_ne (by omega), up_ne (by omega), up_ne (by omega), up_ne (by omega), up_eq]
    · rw [up_ne (by omega), up_ne (by omega), up_ne (by omega), up_eq]
  have tb : ∀ o, cI (C xs d 286 0 [mR 37, mI 9, mR 41, mI (c 0 0), mI 9] g4) (fun v10 h10 => (if v10 = (0 : Int) then some ([mI 0], h10) else cI (C xs d 286 0 [mR 37, mI 10, mR 42, mI (c 0 0), mI 99] h10) (fun v11 h11 => (if v11 = (0 : Int) then some ([mI 0], h11) else cI (C xs d 286 0 [mR 37, mI 11, mR 43, mI (c 0 0), mI 9] h11) (fun v12 h12 => (if v12 = (0 : Int) then some ([mI 0], h12) else cI (C xs d 307 0 [mR 9] h12) (fun v13 h13 => (if v13 = (0 : Int) then some ([mI 0], h13) else some ([mI 1], h13))))))))) = o → C xs d 285 0 [mR 37] gT = o := by
    intro o ho
    refine ta o ?_
    refine cI_of (t1) ?_
    rw [if_neg (by decide)]
    refine cI_of (tN) ?_
    rw [if_neg (by decide)]
    refine cI_of (c_Tp_number xs d _) ?_
    rw [S3.2.2.2.1.2.2.2.2.2.1 q4.1]
    refine cI_of (tadd) ?_
    refine cV_of (u1) ?_
    exact ho
  have mb : ∀ o, cI (C xs d 114 0 [mR 130, mI 9, mI (1656 + (10 + 5 * c 0 0) + 1), mI 0, mI 9, mI 1] m4) (fun v9 h9 => (if v9 = (0 : Int) then some ([mI 0], h9) else cI (C xs d 114 0 [mR 130, mI 10, mI (1656 + (10 + 5 * c 0 0) + 2), mI 0, mI 99, mI 0] h9) (fun v10 h10 => (if v10 = (0 : Int) then some ([mI 0], h10) else cI (C xs d 114 0 [mR 130, mI 11, mI (1656 + (10 + 5 * c 0 0) + 3), mI 0, mI 9, mI 2] h10) (fun v11 h11 => (if v11 = (0 : Int) then some ([mI 0], h11) else (if inI (((upM h11 131 (1656 + (10 + 5 * c 0 0) + 4) (-1)) 131 1656) + 1) then some ([mI 1], (upM (upM h11 131 (1656 + (10 + 5 * c 0 0) + 4) (-1)) 131 1656 (((upM h11 131 (1656 + (10 + 5 * c 0 0) + 4) (-1)) 131 1656) + 1))) else none))))))) = o → C xs d 117 0 [mR 130] gM = o := by
    intro o ho
    refine ma o ?_
    refine cI_of (t2) ?_
    rw [if_neg (by decide)]
    rw [mN]
    refine cI_of rfl ?_
    rw [if_neg (by decide)]
    exact ho
  rcases p_perhaps (xs := xs) (d := d) S4 (t := 9) (m := 9) (most := 9) (wo := 1) (a := 1656 + (10 + 5 * c 0 0) + 1) (i := c 0 0) (b := 41) (by omega) (by unfold WdR; omega) (by omega) (by omega) (by omega) (by rw [u5.1 41 (by omega)]; exact (ad41 _ _ _).1) (by omega) with ⟨v1, g5, m5, k5, f5, e5, x1, x2, S5, x4, x5, x6, x7⟩ | ⟨g5, m5, x1, x2, x3⟩
  rotate_left
  · refine bad (tb _ ?_) (mb _ ?_) x3
    · refine cI_of (x1) ?_
      rfl
    · refine cI_of (x2) ?_
      rfl
  rcases p_perhaps (xs := xs) (d := d) S5 (t := 10) (m := 10) (most := 99) (wo := 0) (a := 1656 + (10 + 5 * c 0 0) + 2) (i := c 0 0) (b := 42) (by omega) (by unfold WdR; omega) (by omega) (by omega) (by omega) (by rw [x6.1 42 (by omega), up_ne (by omega), u5.1 42 (by omega)]; exact (ad41 _ _ _).2.1) (by omega) with ⟨v2, g6, m6, k6, f6, e6, y1, y2, S6, y4, y5, y6, y7⟩ | ⟨g6, m6, y1, y2, y3⟩
  rotate_left
  · refine bad (tb _ ?_) (mb _ ?_) y3
    · refine cI_of (x1) ?_
      rw [if_neg (by decide)]
      refine cI_of (y1) ?_
      rfl
    · refine cI_of (x2) ?_
      rw [if_neg (by decide)]
      refine cI_of (y2) ?_
      rfl
  rcases p_perhaps (xs := xs) (d := d) S6 (t := 11) (m := 11) (most := 9) (wo := 2) (a := 1656 + (10 + 5 * c 0 0) + 3) (i := c 0 0) (b := 43) (by omega) (by unfold WdR; omega) (by omega) (by omega) (by omega) (by rw [y6.1 43 (by omega), up_ne (by omega), x6.1 43 (by omega), up_ne (by omega), u5.1 43 (by omega)]; exact (ad41 _ _ _).2.2) (by omega) with ⟨v3, g7, m7, k7, f7, e7, o1, o2, S7, o4, o5, o6, o7⟩ | ⟨g7, m7, o1, o2, o3⟩
  rotate_left
  · refine bad (tb _ ?_) (mb _ ?_) o3
    · refine cI_of (x1) ?_
      rw [if_neg (by decide)]
      refine cI_of (y1) ?_
      rw [if_neg (by decide)]
      refine cI_of (o1) ?_
      rfl
    · refine cI_of (x2) ?_
      rw [if_neg (by decide)]
      refine cI_of (y2) ?_
      rw [if_neg (by decide)]
      refine cI_of (o2) ?_
      rfl
  -- the rows of the reference behind all that
  have row : ∀ j, m7 131 j = if j = 1656 + (10 + 5 * c 0 0) + 3 then v3 else if j = 1656 + (10 + 5 * c 0 0) + 2 then v2 else if j = 1656 + (10 + 5 * c 0 0) + 1 then v1 else if j = 1656 + (10 + 5 * c 0 0) then k3.2.1 else m3 131 j := fun j => by
    rw [o7.1 131 (by omega), up_at, y7.1 131 (by omega), up_at, x7.1 131 (by omega), up_at, u6.1 131 (by omega), up_at]
  have m3c : m3 131 1656 = c 0 0 := by
    have := b2.n
    unfold shM at this
    rwa [Int.add_zero] at this
  have m7c : upM m7 131 (1656 + (10 + 5 * c 0 0) + 4) (-1) 131 1656 = c 0 0 := by
    rw [up_at, if_neg (by omega), row, if_neg (by omega), if_neg (by omega), if_neg (by omega), if_neg (by omega), m3c]
  have tend : C xs d 285 0 [mR 37] gT = cI (C xs d 307 0 [mR 9] g7) (fun v13 h13 => (if v13 = (0 : Int) then some ([mI 0], h13) else some ([mI 1], h13))) := by
    refine tb _ ?_
    refine cI_of (x1) ?_
    rw [if_neg (by decide)]
    refine cI_of (y1) ?_
    rw [if_neg (by decide)]
    refine cI_of (o1) ?_
    rw [if_neg (by decide)]
  generalize hM8 : upM (upM m7 131 (1656 + (10 + 5 * c 0 0) + 4) (-1)) 131 1656 (c 0 0 + 1) = M8
  have mend : C xs d 117 0 [mR 130] gM = some ([mI 1], M8) := by
    refine mb _ ?_
    refine cI_of (x2) ?_
    rw [if_neg (by decide)]
    refine cI_of (y2) ?_
    rw [if_neg (by decide)]
    refine cI_of (o2) ?_
    rw [if_neg (by decide), m7c]
    refine if_y (by omega) ?_
    rw [hM8]
  have S8 : RdS hT hM tx N k7 f7 e7 g7 M8 := by
    rw [← hM8]
    exact (S7.uM (by omega)).uM (by omega)
  have row8 : ∀ j, M8 131 j = if j = 1656 then c 0 0 + 1 else if j = 1656 + (10 + 5 * c 0 0) + 4 then -1 else m7 131 j := fun j => by rw [← hM8, up_at, up_at]
  have D8 : DrR (neC c k3.2.1 v1 v2 v3) g7 M8 := by
    have T4 : CoT 38 (coC c k3.2.1) g4 := (adT_co b1 hn.1 k3.2.1 (pk 32 0 k1.2.2 0)).mv (fun a h1 h2 => u5.1 a (by omega))
    have T5 : CoT 38 (setC (coC c k3.2.1) 4 (c 0 0) v1) g5 := (T4.set (f := 4) (by omega) (c 0 0) v1).mv (fun a h1 h2 => x6.1 a (by omega))
    have T6 : CoT 38 (setC (setC (coC c k3.2.1) 4 (c 0 0) v1) 5 (c 0 0) v2) g6 := (T5.set (f := 5) (by omega) (c 0 0) v2).mv (fun a h1 h2 => y6.1 a (by omega))
    have T7 : CoT 38 (neC c k3.2.1 v1 v2 v3) g7 := (T6.set (f := 6) (by omega) (c 0 0) v3).mv (fun a h1 h2 => o6.1 a (by omega))
    refine ⟨T7, ?_, ?_, ?_, ?_, ?_⟩
    · refine CoM_add b2 hn.1 ?_ ?_ (fun i h1 h2 => ?_) (fun i h1 h2 => ?_) ?_ ?_ ?_ ?_ ?_
      · show M8 131 (1656 + 0) = _
        rw [row8, if_pos (by omega)]
      · show M8 131 (1656 + 7) = m3 131 (1656 + 7)
        rw [row8, if_neg (by omega), if_neg (by omega), row, if_neg (by omega), if_neg (by omega), if_neg (by omega), if_neg (by omega)]
      · show M8 131 (1656 + i) = m3 131 (1656 + i)
        rw [row8, if_neg (by omega), if_neg (by omega), row, if_neg (by omega), if_neg (by omega), if_neg (by omega), if_neg (by omega)]
      · show M8 131 (1656 + i) = m3 131 (1656 + i)
        rw [row8, if_neg (by omega), if_neg (by omega), row, if_neg (by omega), if_neg (by omega), if_neg (by omega), if_neg (by omega)]
      · show M8 131 (1656 + (10 + 5 * c 0 0)) = _
        rw [row8, if_neg (by omega), if_neg (by omega), row, if_neg (by omega), if_neg (by omega), if_neg (by omega), if_pos rfl]
      · show M8 131 (1656 + (10 + 5 * c 0 0 + 1)) = _
        rw [row8, if_neg (by omega), if_neg (by omega), row, if_neg (by omega), if_neg (by omega), if_pos (by omega)]
      · show M8 131 (1656 + (10 + 5 * c 0 0 + 2)) = _
        rw [row8, if_neg (by omega), if_neg (by omega), row, if_neg (by omega), if_pos (by omega)]
      · show M8 131 (1656 + (10 + 5 * c 0 0 + 3)) = _
        rw [row8, if_neg (by omega), if_neg (by omega), row, if_pos (by omega)]
      · show M8 131 (1656 + (10 + 5 * c 0 0 + 4)) = _
        rw [row8, if_neg (by omega), if_pos (by omega)]
    · have w1 := coC_wf w q4.2 (by omega)
      exact setC_wf (setC_wf (setC_wf w1 (Or.inr (Or.inl ⟨rfl, x5⟩))) (Or.inr (Or.inr (Or.inl ⟨rfl, y5⟩)))) (Or.inr (Or.inr (Or.inr (Or.inl ⟨rfl, o5⟩))))
    · rw [neC_v, if_neg (by omega), if_neg (by omega)]
      exact D.2.2.2.1
    · rw [neC_v, if_pos rfl]
      intro p h1 h2
      have n45 : g7 45 p = if p = c 0 0 then pk 32 0 k1.2.2 0 else g3 45 p := by
        rw [o6.1 45 (by omega), up_ne (by omega), y6.1 45 (by omega), up_ne (by omega), x6.1 45 (by omega), up_ne (by omega), u5.1 45 (by omega)]
        exact adT_nm (b := 38) p
      have n132 : M8 132 (28 + p) = m3 132 (28 + p) := by
        rw [← hM8, up_ne (by omega), up_ne (by omega), o7.1 132 (by omega), up_ne (by omega), y7.1 132 (by omega), up_ne (by omega), x7.1 132 (by omega), up_ne (by omega), u6.1 132 (by omega), up_ne (by omega)]
      dsimp only
      rw [n45, n132]
      by_cases z : p = c 0 0
      · subst z
        rw [if_pos rfl, m3n]
        exact ⟨k1.2.2, ⟨w8, lo⟩, rfl, rfl⟩
      · rw [if_neg z]
        exact b5 p h1 (by omega)
    · rw [row8, if_neg (by omega), if_neg (by omega), row, if_neg (by omega), if_neg (by omega), if_neg (by omega), if_neg (by omega)]
      exact b6
  have P8 : TpR r g7 M8 := by
    rw [← hM8]
    refine TpR.uM (TpR.uM ?_ (by omega)) (by omega)
    refine ⟨P3.1, ?_, ?_⟩
    · rw [o6.1 37 (by omega), up_ne (by omega), y6.1 37 (by omega), up_ne (by omega), x6.1 37 (by omega), up_ne (by omega), u5.1 37 (by omega), adT_ne (by omega)]
      exact P3.2.1
    · rw [o7.2 20 (by omega), up_ne (by omega), y7.2 20 (by omega), up_ne (by omega), x7.2 20 (by omega), up_ne (by omega), u6.2 20 (by omega), up_ne (by omega)]
      exact P3.2.2
  rcases p_semi (xs := xs) (d := d) S8 with ⟨g9, m9, k9, f9, e9, j1, j2, S9, j4, j5, j6⟩ | ⟨g9, m9, j1, j2, j3⟩
  · refine Or.inl ⟨g9, m9, k9, f9, e9, _, _, ?_, ?_, S9, by omega, D8.fr j5 j6, P8.fr j5 j6⟩
    · rw [tend, j1]
      rfl
    · rw [e_M_mapPart_26, if_pos rfl, mend]
      refine cI_of rfl ?_
      rw [if_neg (by decide), j2]
      rfl
  · refine Or.inr ⟨g9, m9, ?_, ?_, j3⟩
    · rw [tend, j1]
      rfl
    · rw [e_M_mapPart_26, if_pos rfl, mend]
      refine cI_of rfl ?_
      rw [if_neg (by decide), j2]
      rfl
end
