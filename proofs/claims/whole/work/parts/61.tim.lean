/-! EQUIV 31: the steps of times -/
section
variable {xs : List Int} {d : Nat} {hT hM : mM} {tx : Nat → Int} {N : Nat} {gT gM : mM} {k : Tk} {f e : Nat} {n : Nat}
/-- the people, as both know them -/
def PeR (n : Nat) (gT gM : mM) : Prop := gT 12 0 = (n : Int) ∧ gM 131 0 = (n : Int) ∧ n ≤ 7 ∧ NmR (gT 19) (fun p => gM 132 (0 + p)) (n : Int)
theorem PeR.fr (P : PeR n hT hM) (F : FrT hT gT) (G : FrM hM gM) : PeR n gT gM := by
  obtain ⟨p1, p2, p3, p4⟩ := P
  refine ⟨by rw [F.1 12 (by omega) (by omega)]; exact p1, by rw [G.2.2.1 0 (by omega)]; exact p2, p3, p4.mv (fun p a b => by rw [F.1 19 (by omega) (by omega)]) (fun p a b => ?_)⟩
  exact G.2.2.2 _ (by omega)
theorem RdS.pe (S : RdS hT hM tx N k f e gT gM) (P : PeR n hT hM) : PeR n gT gM := P.fr S.2.2.2.2.2.2.2.2.2.1 S.2.2.2.2.2.2.2.2.2.2
/-- the row of a step, while it is read -/
def TrF (i : Int) (g g' : mM) : Prop := (∀ a, a ≠ 9 → (a < 50 ∨ 53 < a) → g' a = g a) ∧ (∀ a j, 50 ≤ a → a ≤ 53 → j ≠ i → g' a j = g a j) ∧ ∀ j, (j = 2 ∨ j = 3 ∨ j = 11 ∨ j = 12) → g' 9 j = g 9 j
def MrF (r : Int) (g g' : mM) : Prop := (∀ a, a ≠ 130 → a ≠ 131 → g' a = g a) ∧ (∀ j, (j ≠ 12 ∧ j ≠ 13 ∧ j ≠ 14 ∧ j ≠ 15) → g' 130 j = g 130 j) ∧ ∀ j, (j < r ∨ r + 5 < j ∨ j = r + 3 ∨ j = r + 4) → g' 131 j = g 131 j
theorem TrF.rf {i : Int} {g : mM} : TrF i g g := ⟨fun _ _ _ => rfl, fun _ _ _ _ _ => rfl, fun _ _ => rfl⟩
theorem MrF.rf {i : Int} {g : mM} : MrF i g g := ⟨fun _ _ _ => rfl, fun _ _ => rfl, fun _ _ => rfl⟩
theorem TrF.tr {i : Int} {g k l : mM} (a : TrF i g k) (b : TrF i k l) : TrF i g l := ⟨fun x h1 h2 => (b.1 x h1 h2).trans (a.1 x h1 h2), fun x j h1 h2 h3 => (b.2.1 x j h1 h2 h3).trans (a.2.1 x j h1 h2 h3), fun j h => (b.2.2 j h).trans (a.2.2 j h)⟩
theorem MrF.tr {i : Int} {g k l : mM} (a : MrF i g k) (b : MrF i k l) : MrF i g l := ⟨fun x h1 h2 => (b.1 x h1 h2).trans (a.1 x h1 h2), fun j h => (b.2.1 j h).trans (a.2.1 j h), fun j h => (b.2.2 j h).trans (a.2.2 j h)⟩
theorem TrF.of {i v : Int} {b : Nat} {g g' : mM} (hb : 50 ≤ b ∧ b ≤ 53) (p : TsF (upM g b i v) g') : TrF i g g' := ⟨fun a h1 h2 => by rw [p.1 a h1, up_row (by omega)], fun a j h1 h2 h3 => by rw [p.1 a (by omega), upM, if_neg (fun z => h3 z.2)], fun j hj => by rw [p.2 j hj, up_ne (by omega)]⟩
theorem MrF.of {r i v : Int} {g g' : mM} (hi : r ≤ i ∧ i ≤ r + 5 ∧ i ≠ r + 3 ∧ i ≠ r + 4) (p : TmF (upM g 131 i v) g') : MrF r g g' := ⟨fun a h1 h2 => by rw [p.1 a h1, up_row h2], fun j hj => by rw [p.2 j hj, up_ne (by omega)], fun j hj => by rw [p.1 131 (by omega), up_at, if_neg (by omega)]⟩
/-- both read on, or both found the same fault -/
def OuA (hT hM : mM) (tx : Nat → Int) (N f : Nat) (oT oM : Option (List mv × mM)) (P : mM → mM → Prop) : Prop := (∃ gT' gM' k' f' e', oT = some ([mI 1], gT') ∧ oM = some ([mI 1], gM') ∧ RdS hT hM tx N k' f' e' gT' gM' ∧ f ≤ f' ∧ P gT' gM') ∨ ∃ gT' gM', oT = some ([mI 0], gT') ∧ oM = some ([mI 0], gM') ∧ Flt hT hM gT' gM'
theorem p_whoTo (S : RdS hT hM tx N k f e gT gM) (P : PeR n hT hM) {i a : Int} (hi : 0 ≤ i ∧ i < 60) (ha : 1656 ≤ a ∧ a < 2346) : OuA hT hM tx N f (C xs d 329 0 [mR 47, mI i, mR 12] gT) (C xs d 121 0 [mR 130, mI a] gM) (fun gT' gM' => ∃ p : Nat, p < n ∧ TsF (upM gT 50 i (p : Int)) gT' ∧ TmF (upM gM 131 a (p : Int)) gM') := by
  obtain ⟨p1, p2, p3, p4⟩ := S.pe P
  rw [c_TR_readWho, c_M_personTo]
  rcases p_who (xs := xs) (d := d) S (b := 12) (B := 0) (n := n) (Or.inl rfl) p1 p3 (by omega) p4 with ⟨p, hp, t1, t2, t3⟩ | ⟨t1, t2⟩ | ⟨t1, t2, t3⟩
  · obtain ⟨q1, q8⟩ := isName_k t2
    obtain ⟨g2, m2, k2, f2, e2, s1, s2, S2, s4, s5, s6⟩ := nxt (xs := xs) (d := d) ((S.uT (b := 50) (i := i) (v := (p : Int)) (by omega)).uM (b := 131) (i := a) (v := (p : Int)) (by omega)) (by omega)
    refine Or.inl ⟨g2, m2, k2, f2, e2, ?_, ?_, S2, by have := s4 (by omega); omega, p, hp, s5, s6⟩
    · refine cI_of (t1) ?_
      refine if_n (by omega) ?_
      refine if_y (by omega) ?_
      refine cV_of (s1) ?_
      rfl
    · refine cI_of (S.nM) ?_
      rw [if_neg (by rw [b2i_y t2]; decide), p2]
      refine cI_of (t3) ?_
      refine if_y (by omega) ?_
      refine if_y (by omega) ?_
      rw [up_eq]
      refine if_n (by omega) ?_
      refine cV_of (s2) ?_
      rfl
  · refine Or.inr ⟨_, _, ?_, ?_, S.fault (why := 2) (by omega)⟩
    · refine cI_of (t1) ?_
      rfl
    · refine cI_of (S.nM) ?_
      rw [if_pos (b2i_n t2)]
      refine cI_of (S.oM 2) ?_
      rfl
  · have S' := S.uM (b := 131) (i := a) (v := -1) (by omega)
    refine Or.inr ⟨_, _, ?_, ?_, S'.fault (why := 3) (by omega)⟩
    · refine cI_of (t1) ?_
      rfl
    · refine cI_of (S.nM) ?_
      rw [if_neg (by rw [b2i_y t2]; decide), p2]
      refine cI_of (t3) ?_
      refine if_y (by omega) ?_
      refine if_y (by omega) ?_
      rw [up_eq, if_pos rfl]
      refine cI_of (S'.oM 3) ?_
      rfl
theorem p_amount (S : RdS hT hM tx N k f e gT gM) {i a l m : Int} (hi : 0 ≤ i ∧ i < 60) (ha : 1656 ≤ a ∧ a < 2346) : OuA hT hM tx N f (C xs d 331 0 [mR 47, mI i, mI l, mI m] gT) (C xs d 105 0 [mR 130, mI a, mI l, mI m] gM) (fun gT' gM' => ∃ v, (l ≤ v ∧ v ≤ m) ∧ TsF (upM gT 53 i v) gT' ∧ TmF (upM gM 131 a v) gM') := by
  rw [c_TR_readAmount]
  rcases p_num (xs := xs) (d := d) S (a := a) (l := l) (m := m) (i := i) (b := 53) ha (by omega) with ⟨v, g2, m2, k2, f2, e2, s1, s2, s3, s4, s5, s6, s7, s8, s9⟩ | ⟨g2, m2, s1, s2, s3⟩
  · refine Or.inl ⟨g2, m2, k2, f2, e2, ?_, s5, s6, by omega, v, s3, s8, s9⟩
    refine cI_of (s1) ?_
    refine if_n (by omega) ?_
    refine cI_of (c_Tp_number xs d _) ?_
    rw [s2]
    refine if_y (by omega) ?_
    refine cV_of (s4) ?_
    rfl
  · refine Or.inr ⟨g2, m2, ?_, s2, s3⟩
    refine cI_of (s1) ?_
    rfl
/-- what a step is, but for its partner -/
def StA (cN t tp tt ts tn m0 m1 m2 m5 : Int) : Prop :=
  (t = 14 ∧ m0 = 13 ∧ tp = m1 ∧ 0 ≤ tp ∧ tp < cN) ∨ (t = 15 ∧ m0 = 14 ∧ tn = m1 ∧ 1 ≤ tn ∧ tn ≤ 20) ∨ (t = 16 ∧ m0 = 15) ∨
  (t = 17 ∧ m0 = 16 ∧ tp = m1 ∧ 0 ≤ tp ∧ tp < cN ∧ tn = m2 ∧ 0 ≤ tn ∧ tn ≤ 9) ∨ (t = 18 ∧ m0 = 17) ∨
  (t = 19 ∧ tp = m1 ∧ 0 ≤ tp ∧ tp < cN ∧ (tt = 20 ∧ m0 = 1822 ∨ (tt = 10 ∧ m0 = 1810 ∨ tt = 11 ∧ m0 = 1811) ∧ ts = m5 ∧ (ts = 60 ∨ ts = 61 ∨ ts = 62) ∧ tn = m2 ∧ 0 ≤ tn ∧ tn ≤ 99)) ∨
  (t = 21 ∧ m0 = 19 ∧ tn = m1 ∧ 1 ≤ tn ∧ tn ≤ 99) ∨ (t = 23 ∧ m0 = 21)
/-- what both have of a row -/
def RoA (n : Nat) (t i r : Int) (gT gM : mM) : Prop := StA (n : Int) t (gT 50 i) (gT 51 i) (gT 52 i) (gT 53 i) (gM 131 r) (gM 131 (r + 1)) (gM 131 (r + 2)) (gM 131 (r + 5))
theorem p_test (S : RdS hT hM tx N k f e gT gM) (P : PeR n hT hM) {i r : Int} (hi : 0 ≤ i ∧ i < 60) (hr : 1656 ≤ r ∧ r + 5 < 2346) : OuA hT hM tx N f (C xs d 328 0 [mR 47, mI i, mR 12] gT) (C xs d 122 0 [mR 130, mI r] gM) (fun gT' gM' => RoA n 19 i r gT' gM' ∧ TrF i gT gT' ∧ MrF r gM gM') := by
  have R := S.wd
  unfold WdR at R
  rw [c_TR_readTest, S.w9, c_M_test]
  by_cases z : tWd k = 20 ∨ tWd k = 10 ∨ tWd k = 11
  rotate_left
  · refine Or.inr ⟨_, _, ?_, ?_, S.fault (why := 2) (by omega)⟩
    · rw [if_neg (by omega), if_neg (by omega), if_neg (by omega)]
      refine cI_of (S.oT 2) ?_
      rfl
    · refine cI_of (S.wM) ?_
      rw [if_neg (by omega), if_neg (by omega), if_neg (by omega)]
      refine cI_of (S.oM 2) ?_
      rfl
  obtain ⟨z4, z0⟩ := wd_4 (k := k) (by omega)
  -- which test
  obtain ⟨t, ht⟩ : ∃ t, tWd k = t := ⟨_, rfl⟩
  obtain ⟨m, hm⟩ : ∃ m, mWd k = m := ⟨_, rfl⟩
  rw [ht, hm] at R
  rw [ht] at z
  obtain ⟨g1, n1, k1, f1, e1, r1, r2, S1, r4, r5, r6⟩ := nxt (xs := xs) (d := d) ((S.uT (b := 51) (i := i) (v := t) (by omega)).uM (b := 131) (i := r) (v := 1800 + m) (by omega)) z4
  have ff1 := r4 z0
  have preT : ∀ o, cI (C xs d 329 0 [mR 47, mI i, mR 12] g1) (fun v2 h2 => (if v2 = (0 : Int) then some ([mI 0], h2) else (if t = (20 : Int) then some ([mI 1], h2) else cI (C xs d 330 0 [mR 47, mI i] h2) (fun v3 h3 => (if v3 = (0 : Int) then some ([mI 0], h3) else (if t = (10 : Int) then cI (C xs d 331 0 [mR 47, mI i, mI 0, mI 99] h3) (fun v5 h5 => (if v5 = (0 : Int) then some ([mI 0], h5) else some ([mI 1], h5))) else cI (C xs d 331 0 [mR 47, mI i, mI 0, mI 9] h3) (fun v4 h4 => (if v4 = (0 : Int) then some ([mI 0], h4) else some ([mI 1], h4))))))))) = o → (if tWd k = (20 : Int) then X xs d k_TR_readTest 18 [mR 47, mI i, mR 12, mI (tWd k)] [] gT else (if tWd k = (10 : Int) then X xs d k_TR_readTest 18 [mR 47, mI i, mR 12, mI (tWd k)] [] gT else (if tWd k = (11 : Int) then X xs d k_TR_readTest 18 [mR 47, mI i, mR 12, mI (tWd k)] [] gT else cI (C xs d 305 0 [mR 9, mI 2] gT) (fun v1 h1 => (if 0 ≤ v1 ∧ v1 ≤ 1 then some ([mI v1], h1) else none))))) = o := by
    intro o ho
    have go : X xs d k_TR_readTest 18 [mR 47, mI i, mR 12, mI t] [] gT = o := by
      rw [e_TR_readTest_18]
      refine if_y (by omega) ?_
      refine cV_of (r1) ?_
      exact ho
    rw [ht]
    rcases z with z | z | z
    · rw [if_pos z]; exact go
    · rw [if_neg (by omega), if_pos z]; exact go
    · rw [if_neg (by omega), if_neg (by omega), if_pos z]; exact go
  have preM : ∀ o, cI (C xs d 121 0 [mR 130, mI (r + 1)] n1) (fun v2 h2 => (if v2 = (0 : Int) then some ([mI 0], h2) else (if m = (22 : Int) then some ([mI 1], h2) else cI (C xs d 99 0 [mR 130, mI 60] h2) (fun v3 h3 => (if v3 = (0 : Int) then cI (C xs d 99 0 [mR 130, mI 62] h3) (fun v4 h4 => (if v4 = (0 : Int) then cI (C xs d 99 0 [mR 130, mI 61] h4) (fun v5 h5 => (if v5 = (0 : Int) then cI (C xs d 101 0 [mR 130, mI 2] h5) (fun v6 h6 => (if 0 ≤ v6 ∧ v6 ≤ 1 then some ([mI v6], h6) else none)) else X xs d k_M_test 55 [mR 130, mI r, mI m] [] h5)) else X xs d k_M_test 55 [mR 130, mI r, mI m] [] h4)) else X xs d k_M_test 55 [mR 130, mI r, mI m] [] h3))))) = o → cI (C xs d 100 0 [mR 130, mC 6] gM) (fun v1 h1 => (if v1 = (22 : Int) then X xs d k_M_test 17 [mR 130, mI r, mI v1] [] h1 else (if v1 = (10 : Int) then X xs d k_M_test 17 [mR 130, mI r, mI v1] [] h1 else (if v1 = (11 : Int) then X xs d k_M_test 17 [mR 130, mI r, mI v1] [] h1 else cI (C xs d 101 0 [mR 130, mI 2] h1) (fun v2 h2 => (if 0 ≤ v2 ∧ v2 ≤ 1 then some ([mI v2], h2) else none)))))) = o := by
    intro o ho
    have go : X xs d k_M_test 17 [mR 130, mI r, mI m] [] gM = o := by
      rw [e_M_test_17]
      refine if_y (by omega) ?_
      refine if_y (by omega) ?_
      refine cV_of (r2) ?_
      refine if_y (by omega) ?_
      exact ho
    refine cI_of (S.wM) ?_
    rw [hm]
    rcases z with z | z | z
    · rw [if_pos (by omega)]; exact go
    · rw [if_neg (by omega), if_pos (by omega)]; exact go
    · rw [if_neg (by omega), if_neg (by omega), if_pos (by omega)]; exact go
  have e51 : ∀ j, g1 51 j = if j = i then t else gT 51 j := fun j => by rw [r5.1 51 (by omega), up_at]
  rcases p_whoTo (xs := xs) (d := d) S1 P (i := i) (a := r + 1) hi (by omega) with ⟨g2, n2, k2, f2, e2, s1, s2, S2, s4, p, hp, s5, s6⟩ | ⟨g2, n2, s1, s2, s3⟩
  rotate_left
  · refine Or.inr ⟨g2, n2, preT _ ?_, preM _ ?_, s3⟩
    · refine cI_of (s1) ?_
      rfl
    · refine cI_of (s2) ?_
      rfl
  have fT2 : TrF i gT g2 := (TrF.of (by omega) r5).tr (TrF.of (by omega) s5)
  have fM2 : MrF r gM n2 := (MrF.of (by omega) r6).tr (MrF.of (by omega) s6)
  have t50 : g2 50 i = (p : Int) := by rw [s5.1 50 (by omega), up_eq]
  have t51 : g2 51 i = t := by rw [s5.1 51 (by omega), up_ne (by omega), e51, if_pos rfl]
  have m0 : n2 131 r = 1800 + m := by rw [s6.1 131 (by omega), up_at, if_neg (by omega), r6.1 131 (by omega), up_eq]
  have m1 : n2 131 (r + 1) = (p : Int) := by rw [s6.1 131 (by omega), up_eq]
  by_cases q : t = 20
  · refine Or.inl ⟨g2, n2, k2, f2, e2, preT _ ?_, preM _ ?_, S2, by omega, ?_, fT2, fM2⟩
    · refine cI_of (s1) ?_
      rw [if_neg (by decide), if_pos q]
    · refine cI_of (s2) ?_
      rw [if_neg (by decide), if_pos (by omega)]
    · unfold RoA StA
      rw [t50, t51, m0, m1]
      refine Or.inr (Or.inr (Or.inr (Or.inr (Or.inr (Or.inl ⟨rfl, rfl, by omega, by omega, Or.inl ⟨q, by omega⟩⟩)))))
  have qm : m ≠ 22 := by omega
  -- a sign
  have t8 : g2 9 8 = sgn k2 := S2.2.2.2.1.2.2.2.1
  have m12 := S2.2.2.2.2.1.2.2.1
  have m15 := S2.2.2.2.2.1.2.2.2
  have isS : ∀ c, C xs d 99 0 [mR 130, mI c] n2 = some ([mI (b2i (k2.1 = 3 ∧ k2.2.1 = c))], n2) := fun c => by
    rw [c_M_isSign, m12]
    by_cases u : k2.1 = 3
    · rw [if_pos (kdM_s.mpr u), m15 (Or.inr u)]
      by_cases v : k2.2.1 = c
      · rw [if_pos v, b2i_y ⟨u, v⟩]
      · rw [if_neg v, b2i_n (fun w => v w.2)]
    · rw [if_neg (fun v => u (kdM_s.mp v)), b2i_n (fun w => u w.1)]
  by_cases sg : k2.1 = 3 ∧ (k2.2.1 = 60 ∨ k2.2.1 = 61 ∨ k2.2.1 = 62)
  rotate_left
  · refine Or.inr ⟨_, _, preT _ ?_, preM _ ?_, S2.fault (why := 2) (by omega)⟩
    · refine cI_of (s1) ?_
      rw [if_neg (by decide), if_neg q]
      refine cI_of (v := 0) (h := flT k2 f2 2 g2) ?_ rfl
      rw [c_TR_readCompares, c_Tp_isAtCompares, t8]
      have : sgn k2 ≠ 60 ∧ sgn k2 ≠ 61 ∧ sgn k2 ≠ 62 := by
        unfold sgn
        by_cases u : k2.1 = 3
        · rw [if_pos u]; omega
        · rw [if_neg u]; omega
      rw [if_neg this.1, if_neg this.2.2, if_neg this.2.1]
      refine cI_of rfl ?_
      rw [if_pos rfl]
      refine cI_of (S2.oT 2) ?_
      rfl
    · refine cI_of (s2) ?_
      rw [if_neg (by decide), if_neg qm]
      refine cI_of (isS 60) ?_
      rw [if_pos (b2i_n (by omega))]
      refine cI_of (isS 62) ?_
      rw [if_pos (b2i_n (by omega))]
      refine cI_of (isS 61) ?_
      rw [if_pos (b2i_n (by omega))]
      refine cI_of (S2.oM 2) ?_
      rfl
  have sE : sgn k2 = k2.2.1 := by unfold sgn; rw [if_pos sg.1]
  obtain ⟨g3, n3, k3, f3, e3, u1, u2, S3, u4, u5, u6⟩ := nxt (xs := xs) (d := d) ((S2.uT (b := 52) (i := i) (v := k2.2.1) (by omega)).uM (b := 131) (i := r + 5) (v := k2.2.1) (by omega)) (by omega)
  have ff3 := u4 (by omega)
  have cmpT : C xs d 330 0 [mR 47, mI i] g2 = some ([mI 1], g3) := by
    rw [c_TR_readCompares]
    refine cI_of (v := 1) (h := g2) ?_ ?_
    · rw [c_Tp_isAtCompares, t8, sE]
      by_cases v1 : k2.2.1 = 60
      · rw [if_pos v1]
      rw [if_neg v1]
      by_cases v2 : k2.2.1 = 62
      · rw [if_pos v2]
      rw [if_neg v2, if_pos (by omega)]
    rw [if_neg (by decide)]
    refine cI_of (c_Tp_sign xs d _) ?_
    rw [t8, sE]
    refine if_y (by omega) ?_
    refine cV_of (u1) ?_
    rfl
  have cmpM : ∀ o, (if m = (10 : Int) then cI (C xs d 105 0 [mR 130, mI (r + 2), mI 0, mI 99] n3) (fun v3 h3 => (if 0 ≤ v3 ∧ v3 ≤ 1 then some ([mI v3], h3) else none)) else cI (C xs d 105 0 [mR 130, mI (r + 2), mI 0, mI 9] n3) (fun v2 h2 => (if 0 ≤ v2 ∧ v2 ≤ 1 then some ([mI v2], h2) else none))) = o → cI (C xs d 99 0 [mR 130, mI 60] n2) (fun v3 h3 => (if v3 = (0 : Int) then cI (C xs d 99 0 [mR 130, mI 62] h3) (fun v4 h4 => (if v4 = (0 : Int) then cI (C xs d 99 0 [mR 130, mI 61] h4) (fun v5 h5 => (if v5 = (0 : Int) then cI (C xs d 101 0 [mR 130, mI 2] h5) (fun v6 h6 => (if 0 ≤ v6 ∧ v6 ≤ 1 then some ([mI v6], h6) else none)) else X xs d k_M_test 55 [mR 130, mI r, mI m] [] h5)) else X xs d k_M_test 55 [mR 130, mI r, mI m] [] h4)) else X xs d k_M_test 55 [mR 130, mI r, mI m] [] h3)) = o := by
    intro o ho
    have go : X xs d k_M_test 55 [mR 130, mI r, mI m] [] n2 = o := by
      rw [e_M_test_55, m15 (Or.inr sg.1)]
      refine if_y (by omega) ?_
      refine if_y (by omega) ?_
      refine cV_of (u2) ?_
      refine if_y (by omega) ?_
      exact ho
    refine cI_of (isS 60) ?_
    by_cases v1 : k2.2.1 = 60
    · rw [if_neg (by rw [b2i_y ⟨sg.1, v1⟩]; decide)]; exact go
    rw [if_pos (b2i_n (fun w => v1 w.2))]
    refine cI_of (isS 62) ?_
    by_cases v2 : k2.2.1 = 62
    · rw [if_neg (by rw [b2i_y ⟨sg.1, v2⟩]; decide)]; exact go
    rw [if_pos (b2i_n (fun w => v2 w.2))]
    refine cI_of (isS 61) ?_
    rw [if_neg (by rw [b2i_y ⟨sg.1, by omega⟩]; decide)]
    exact go
  have last : ∀ (mo : Int), (t = 10 ∧ mo = 99 ∨ t = 11 ∧ mo = 9) → OuA hT hM tx N f3 (C xs d 331 0 [mR 47, mI i, mI 0, mI mo] g3) (C xs d 105 0 [mR 130, mI (r + 2), mI 0, mI mo] n3) (fun gT' gM' => ∃ v, (0 ≤ v ∧ v ≤ mo) ∧ TsF (upM g3 53 i v) gT' ∧ TmF (upM n3 131 (r + 2) v) gM') := fun mo _ => p_amount S3 hi (by omega)
  have okP : ∀ (mo v : Int) (gT' gM' : mM), (t = 10 ∧ mo = 99 ∨ t = 11 ∧ mo = 9) → (0 ≤ v ∧ v ≤ mo) → TsF (upM g3 53 i v) gT' → TmF (upM n3 131 (r + 2) v) gM' → RoA n 19 i r gT' gM' ∧ TrF i gT gT' ∧ MrF r gM gM' := fun mo v gT' gM' hmo hv b1 b2 => by
    refine ⟨?_, (fT2.tr (TrF.of (by omega) u5)).tr (TrF.of (by omega) b1), (fM2.tr (MrF.of (by omega) u6)).tr (MrF.of (by omega) b2)⟩
    unfold RoA StA
    have a50 : gT' 50 i = (p : Int) := by rw [b1.1 50 (by omega), up_ne (by omega), u5.1 50 (by omega), up_ne (by omega)]; exact t50
    have a51 : gT' 51 i = t := by rw [b1.1 51 (by omega), up_ne (by omega), u5.1 51 (by omega), up_ne (by omega)]; exact t51
    have a52 : gT' 52 i = k2.2.1 := by rw [b1.1 52 (by omega), up_ne (by omega), u5.1 52 (by omega), up_eq]
    have a53 : gT' 53 i = v := by rw [b1.1 53 (by omega), up_eq]
    have c0 : gM' 131 r = 1800 + m := by rw [b2.1 131 (by omega), up_at, if_neg (by omega), u6.1 131 (by omega), up_at, if_neg (by omega)]; exact m0
    have c1 : gM' 131 (r + 1) = (p : Int) := by rw [b2.1 131 (by omega), up_at, if_neg (by omega), u6.1 131 (by omega), up_at, if_neg (by omega)]; exact m1
    have c2 : gM' 131 (r + 2) = v := by rw [b2.1 131 (by omega), up_eq]
    have c5 : gM' 131 (r + 5) = k2.2.1 := by rw [b2.1 131 (by omega), up_at, if_neg (by omega), u6.1 131 (by omega), up_eq]
    rw [a50, a51, a52, a53, c0, c1, c2, c5]
    exact Or.inr (Or.inr (Or.inr (Or.inr (Or.inr (Or.inl ⟨rfl, rfl, by omega, by omega, Or.inr ⟨by omega, rfl, sg.2, rfl, by omega, by omega⟩⟩)))))
  by_cases tq : t = 10
  · rcases last 99 (Or.inl ⟨tq, rfl⟩) with ⟨g4, n4, k4, f4, e4, x1, x2, S4, x4, v, x5, x6, x7⟩ | ⟨g4, n4, x1, x2, x3⟩
    · refine Or.inl ⟨g4, n4, k4, f4, e4, preT _ ?_, preM _ ?_, S4, by omega, okP 99 v g4 n4 (Or.inl ⟨tq, rfl⟩) x5 x6 x7⟩
      · refine cI_of (s1) ?_
        rw [if_neg (by decide), if_neg q]
        refine cI_of (cmpT) ?_
        rw [if_neg (by decide), if_pos tq]
        refine cI_of (x1) ?_
        rfl
      · refine cI_of (s2) ?_
        rw [if_neg (by decide), if_neg qm]
        refine cmpM _ ?_
        rw [if_pos (by omega)]
        refine cI_of (x2) ?_
        rfl
    · refine Or.inr ⟨g4, n4, preT _ ?_, preM _ ?_, x3⟩
      · refine cI_of (s1) ?_
        rw [if_neg (by decide), if_neg q]
        refine cI_of (cmpT) ?_
        rw [if_neg (by decide), if_pos tq]
        refine cI_of (x1) ?_
        rfl
      · refine cI_of (s2) ?_
        rw [if_neg (by decide), if_neg qm]
        refine cmpM _ ?_
        rw [if_pos (by omega)]
        refine cI_of (x2) ?_
        rfl
  · rcases last 9 (Or.inr ⟨by omega, rfl⟩) with ⟨g4, n4, k4, f4, e4, x1, x2, S4, x4, v, x5, x6, x7⟩ | ⟨g4, n4, x1, x2, x3⟩
    · refine Or.inl ⟨g4, n4, k4, f4, e4, preT _ ?_, preM _ ?_, S4, by omega, okP 9 v g4 n4 (Or.inr ⟨by omega, rfl⟩) x5 x6 x7⟩
      · refine cI_of (s1) ?_
        rw [if_neg (by decide), if_neg q]
        refine cI_of (cmpT) ?_
        rw [if_neg (by decide), if_neg tq]
        refine cI_of (x1) ?_
        rfl
      · refine cI_of (s2) ?_
        rw [if_neg (by decide), if_neg qm]
        refine cmpM _ ?_
        rw [if_neg (by omega)]
        refine cI_of (x2) ?_
        rfl
    · refine Or.inr ⟨g4, n4, preT _ ?_, preM _ ?_, x3⟩
      · refine cI_of (s1) ?_
        rw [if_neg (by decide), if_neg q]
        refine cI_of (cmpT) ?_
        rw [if_neg (by decide), if_neg tq]
        refine cI_of (x1) ?_
        rfl
      · refine cI_of (s2) ?_
        rw [if_neg (by decide), if_neg qm]
        refine cmpM _ ?_
        rw [if_neg (by omega)]
        refine cI_of (x2) ?_
        rfl
end
