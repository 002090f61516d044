/-! EQUIV 28: toasts of a map; a map -/
section
variable {xs : List Int} {d : Nat} {hT hM : mM} {tx : Nat → Int} {N : Nat} {gT gM : mM} {k : Tk} {f e : Nat} {c : Kc} {r : Nat}
theorem p_toast (S : RdS hT hM tx N k f e gT gM) (D : DrR c gT gM) (P : TpR r gT gM) (hk : tWd k = 12) : Out hT hM tx N f (C xs d 287 0 [mR 37] gT) (X xs d k_M_mapPart 26 [mR 130, mI 7] [] gM) := by
  obtain ⟨z4, z0⟩ := wd_4 (k := k) (by omega)
  have w := D.2.2.1
  have hn := w.1
  obtain ⟨n, hN⟩ : ∃ n : Nat, c 0 0 = (n : Int) := ⟨(c 0 0).toNat, by omega⟩
  have bad : ∀ {gT' gM' : mM}, C xs d 287 0 [mR 37] gT = some ([mI 0], gT') → C xs d 118 0 [mR 130] gM = some ([mI 0], gM') → Flt hT hM gT' gM' → Out hT hM tx N f (C xs d 287 0 [mR 37] gT) (X xs d k_M_mapPart 26 [mR 130, mI 7] [] gM) := fun a b c => Or.inr ⟨_, _, a, by rw [e_M_mapPart_26, if_neg (by decide), if_pos (by decide), b]; rfl, c⟩
  have rowE := fun (p : Nat) (hp : (p : Int) < c 0 0) g => m_personRow (xs := xs) (d := d) (h := g) (p := (p : Int)) (by omega)
  obtain ⟨g1, m1, k1, f1, e1, r1, r2, S1, r4, r5, r6⟩ := nxt (xs := xs) (d := d) S z4
  have D1 := D.fr r5 r6
  have P1 := P.fr r5 r6
  have ff1 := r4 z0
  have cn1 : m1 131 1656 = (n : Int) := by rw [D1.cn, hN]
  rcases p_who (xs := xs) (d := d) S1 (b := 38) (B := 28) (n := n) (Or.inr rfl) (by rw [D1.1.n, hN]) (by omega) (by omega) (by rw [← hN]; exact D1.2.2.2.2.1) with ⟨p, hp, t1, t2, t3⟩ | ⟨t1, t2⟩ | ⟨t1, t2, t3⟩
  rotate_left
  · refine bad ?_ ?_ (S1.fault (why := 2) (by omega))
    · rw [c_MR_readToast]
      refine cV_of (r1) ?_
      refine cI_of (t1) ?_
      rfl
    · rw [c_M_aToast]
      refine cV_of (r2) ?_
      refine cI_of (S1.nM) ?_
      rw [if_pos (b2i_n t2)]
      refine cI_of (S1.oM 2) ?_
      rfl
  · refine bad ?_ ?_ (S1.fault (why := 3) (by omega))
    · rw [c_MR_readToast]
      refine cV_of (r1) ?_
      refine cI_of (t1) ?_
      rfl
    · rw [c_M_aToast]
      refine cV_of (r2) ?_
      refine cI_of (S1.nM) ?_
      rw [if_neg (by rw [b2i_y t2]; decide), cn1]
      refine cI_of (t3) ?_
      rw [if_pos rfl]
      refine cI_of (S1.oM 3) ?_
      rfl
  have q1 : g1 44 (p : Int) = c 7 (p : Int) := D1.1.q _ (by omega) (by omega)
  have q2 : m1 131 (1656 + (10 + 5 * (p : Int)) + 4) = c 7 (p : Int) := by
    have := D1.2.1.q (p : Int) (by omega) (by omega)
    unfold shM at this
    rw [show 1656 + (10 + 5 * (p : Int)) + 4 = 1656 + (10 + 5 * (p : Int) + 4) by omega]
    exact this
  by_cases has : c 7 (p : Int) = -1
  rotate_left
  · refine bad ?_ ?_ (S1.fault (why := 5) (by omega))
    · rw [c_MR_readToast]
      refine cV_of (r1) ?_
      refine cI_of (t1) ?_
      refine if_n (by omega) ?_
      refine cI_of (v := 1) (h := g1) ?_ ?_
      · rw [c_Co_hasWhom xs d (by omega), q1, if_neg has]
        refine if_y (by omega) ?_
        rfl
      refine if_n (by omega) ?_
      refine cI_of (S1.oT 5) ?_
      rfl
    · rw [c_M_aToast]
      refine cV_of (r2) ?_
      refine cI_of (S1.nM) ?_
      rw [if_neg (by rw [b2i_y t2]; decide), cn1]
      refine cI_of (t3) ?_
      refine if_n (by omega) ?_
      refine cI_of (rowE p (by omega) m1) ?_
      refine if_y (by omega) ?_
      refine if_y (by omega) ?_
      refine if_y (by omega) ?_
      rw [q2, if_neg has]
      refine cI_of (S1.oM 5) ?_
      rfl
  obtain ⟨w1, w8⟩ := isName_k t2
  obtain ⟨g2, m2, k2, f2, e2, s1, s2, S2, s4, s5, s6⟩ := nxt (xs := xs) (d := d) S1 (by omega)
  have ff2 := s4 (by omega)
  have D2 := D1.fr s5 s6
  have P2 := P1.fr s5 s6
  -- up to the word behind the name
  have ta : ∀ o, cI (C xs d 306 0 [mR 9, mI 13] g2) (fun v5 h5 => (if v5 = (0 : Int) then some ([mI 0], h5) else cI (C xs d 309 0 [mR 9, mR 38] h5) (fun v6 h6 => (if v6 = (-1 : Int) then some ([mI 0], h6) else (if v6 = (p : Int) then cI (C xs d 305 0 [mR 9, mI 5] h6) (fun v9 h9 => (if 0 ≤ v9 ∧ v9 ≤ 1 then some ([mI v9], h9) else none)) else (if inA (p : Int) 7 then cV (C xs d 310 0 [mR 9] (upM h6 44 (p : Int) v6)) (fun h7 => cI (C xs d 307 0 [mR 9] h7) (fun v8 h8 => (if 0 ≤ v8 ∧ v8 ≤ 1 then some ([mI v8], h8) else none))) else none)))))) = o → C xs d 287 0 [mR 37] gT = o := by
    intro o ho
    rw [c_MR_readToast]
    refine cV_of (r1) ?_
    refine cI_of (t1) ?_
    refine if_n (by omega) ?_
    refine cI_of (v := 0) (h := g1) ?_ ?_
    · rw [c_Co_hasWhom xs d (by omega), q1, if_pos has]
      refine if_y (by omega) ?_
      rfl
    refine if_y (by omega) ?_
    refine cV_of (s1) ?_
    exact ho
  have ma : ∀ o, cI (C xs d 104 0 [mR 130, mC 6, mI 12] m2) (fun v6 h6 => (if v6 = (0 : Int) then some ([mI 0], h6) else cI (C xs d 106 0 [mR 130, mC 6] h6) (fun v7 h7 => (if v7 = (0 : Int) then cI (C xs d 101 0 [mR 130, mI 2] h7) (fun v13 h13 => (if 0 ≤ v13 ∧ v13 ≤ 1 then some ([mI v13], h13) else none)) else cI (C xs d 108 0 [mR 130, mI 28, mI (h7 131 1656)] h7) (fun v8 h8 => (if v8 = (-1 : Int) then cI (C xs d 101 0 [mR 130, mI 3] (upM h8 131 2062 v8)) (fun v12 h12 => (if 0 ≤ v12 ∧ v12 ≤ 1 then some ([mI v12], h12) else none)) else (if v8 = (p : Int) then cI (C xs d 101 0 [mR 130, mI 5] (upM h8 131 2062 v8)) (fun v11 h11 => (if 0 ≤ v11 ∧ v11 ≤ 1 then some ([mI v11], h11) else none)) else cI (C xs d 111 0 [mI (p : Int)] (upM h8 131 2062 v8)) (fun v9 h9 => (if inI (1656 + v9) then (if inI ((1656 + v9) + 4) then (if inA ((1656 + v9) + 4) 2346 then cV (C xs d 98 0 [mR 130] (upM h9 131 ((1656 + v9) + 4) (h9 131 2062))) (fun h10 => some ([mI 1], h10)) else none) else none) else none))))))))) = o → C xs d 118 0 [mR 130] gM = o := by
    intro o ho
    rw [c_M_aToast]
    refine cV_of (r2) ?_
    refine cI_of (S1.nM) ?_
    rw [if_neg (by rw [b2i_y t2]; decide), cn1]
    refine cI_of (t3) ?_
    refine if_n (by omega) ?_
    refine cI_of (rowE p (by omega) m1) ?_
    refine if_y (by omega) ?_
    refine if_y (by omega) ?_
    refine if_y (by omega) ?_
    rw [q2, if_pos has]
    refine cV_of (s2) ?_
    exact ho
  rcases p_word (xs := xs) (d := d) S2 (t := 13) (m := 12) (by omega) (by unfold WdR; omega) with ⟨g3, m3, k3, f3, e3, u1, u2, S3, u4, u5, u6⟩ | ⟨g3, m3, u1, u2, u3⟩
  rotate_left
  · refine bad (ta _ ?_) (ma _ ?_) u3
    · refine cI_of (u1) ?_
      rfl
    · refine cI_of (u2) ?_
      rfl
  have D3 := D2.fr u5 u6
  have P3 := P2.fr u5 u6
  have cn3 : m3 131 1656 = (n : Int) := by rw [D3.cn, hN]
  rcases p_who (xs := xs) (d := d) S3 (b := 38) (B := 28) (n := n) (Or.inr rfl) (by rw [D3.1.n, hN]) (by omega) (by omega) (by rw [← hN]; exact D3.2.2.2.2.1) with ⟨o, ho, x1, x2, x3⟩ | ⟨x1, x2⟩ | ⟨x1, x2, x3⟩
  rotate_left
  · refine bad (ta _ ?_) (ma _ ?_) (S3.fault (why := 2) (by omega))
    · refine cI_of (u1) ?_
      refine if_n (by omega) ?_
      refine cI_of (x1) ?_
      rfl
    · refine cI_of (u2) ?_
      refine if_n (by omega) ?_
      refine cI_of (S3.nM) ?_
      rw [if_pos (b2i_n x2)]
      refine cI_of (S3.oM 2) ?_
      rfl
  · have S3' := S3.uM (b := 131) (i := 2062) (v := -1) (by omega)
    refine bad (ta _ ?_) (ma _ ?_) (S3'.fault (why := 3) (by omega))
    · refine cI_of (u1) ?_
      refine if_n (by omega) ?_
      refine cI_of (x1) ?_
      rfl
    · refine cI_of (u2) ?_
      refine if_n (by omega) ?_
      refine cI_of (S3.nM) ?_
      rw [if_neg (by rw [b2i_y x2]; decide), cn3]
      refine cI_of (x3) ?_
      rw [if_pos rfl]
      refine cI_of (S3'.oM 3) ?_
      rfl
  have S3' := S3.uM (b := 131) (i := 2062) (v := (o : Int)) (by omega)
  by_cases same : (o : Int) = (p : Int)
  · refine bad (ta _ ?_) (ma _ ?_) (S3'.fault (why := 5) (by omega))
    · refine cI_of (u1) ?_
      refine if_n (by omega) ?_
      refine cI_of (x1) ?_
      refine if_n (by omega) ?_
      rw [if_pos same]
      refine cI_of (S3.oT 5) ?_
      rfl
    · refine cI_of (u2) ?_
      refine if_n (by omega) ?_
      refine cI_of (S3.nM) ?_
      rw [if_neg (by rw [b2i_y x2]; decide), cn3]
      refine cI_of (x3) ?_
      refine if_n (by omega) ?_
      rw [if_pos same]
      refine cI_of (S3'.oM 5) ?_
      rfl
  obtain ⟨y1, y8⟩ := isName_k x2
  obtain ⟨g4, m4, k4, f4, e4, v1, v2, S4, v4, v5, v6⟩ := nxt (xs := xs) (d := d) ((S3'.uT (b := 44) (i := (p : Int)) (v := (o : Int)) (by omega)).uM (b := 131) (i := 1656 + (10 + 5 * (p : Int)) + 4) (v := (o : Int)) (by omega)) (by omega)
  have ff4 := v4 (by omega)
  have tend : C xs d 287 0 [mR 37] gT = cI (C xs d 307 0 [mR 9] g4) (fun v8 h8 => (if 0 ≤ v8 ∧ v8 ≤ 1 then some ([mI v8], h8) else none)) := by
    refine ta _ ?_
    refine cI_of (u1) ?_
    refine if_n (by omega) ?_
    refine cI_of (x1) ?_
    refine if_n (by omega) ?_
    rw [if_neg same]
    refine if_y (by omega) ?_
    refine cV_of (v1) ?_
    rfl
  have mend : C xs d 118 0 [mR 130] gM = some ([mI 1], m4) := by
    refine ma _ ?_
    refine cI_of (u2) ?_
    refine if_n (by omega) ?_
    refine cI_of (S3.nM) ?_
    rw [if_neg (by rw [b2i_y x2]; decide), cn3]
    refine cI_of (x3) ?_
    refine if_n (by omega) ?_
    rw [if_neg same]
    refine cI_of (rowE p (by omega) _) ?_
    refine if_y (by omega) ?_
    refine if_y (by omega) ?_
    refine if_y (by omega) ?_
    rw [up_eq]
    refine cV_of (v2) ?_
    rfl
  have D4 : DrR (setC c 7 (p : Int) (o : Int)) g4 m4 := by
    refine DrR.fr (gT := upM g3 44 (p : Int) (o : Int)) (gM := upM (upM m3 131 2062 (o : Int)) 131 (1656 + (10 + 5 * (p : Int)) + 4) (o : Int)) ?_ v5 v6
    obtain ⟨a1, a2, a3, a4, a5, a6⟩ := D3
    refine ⟨a1.set (f := 7) (by omega) _ _, ?_, setC_wf a3 (Or.inr (Or.inr (Or.inr (Or.inr ⟨rfl, by omega, by omega⟩)))), ?_, ?_, by rw [up_at, if_neg (by omega), up_at, if_neg (by omega)]; exact a6⟩
    · have b2 : CoM c (shM (upM m3 131 2062 (o : Int))) := by
        obtain ⟨k1, k2, k3, k4, k5, k6, k7, k8⟩ := a2
        have e : ∀ j, j < 46 → shM (upM m3 131 2062 (o : Int)) 131 j = shM m3 131 j := fun j hj => by
          show upM m3 131 2062 (o : Int) 131 (1656 + j) = m3 131 (1656 + j)
          rw [up_at, if_neg (by omega)]
        exact ⟨(e _ (by omega)).trans k1, (e _ (by omega)).trans k2, fun i a b => (e _ (by omega)).trans (k3 i a b), fun i a b => (e _ (by omega)).trans (k4 i a b), fun i a b => (e _ (by omega)).trans (k5 i a b), fun i a b => (e _ (by omega)).trans (k6 i a b), fun i a b => (e _ (by omega)).trans (k7 i a b), fun i a b => (e _ (by omega)).trans (k8 i a b)⟩
      have b3 := b2.set (p := (p : Int)) (v := (o : Int)) (f := 4) (by omega) (by omega)
      rw [show 1656 + (10 + 5 * (p : Int)) + 4 = 1656 + (10 + 5 * (p : Int) + 4) by omega]
      exact b3.mv shM_up
    · rw [show setC c 7 (p : Int) (o : Int) 1 0 = c 1 0 from if_neg (fun z => by cases z.1)]; exact a4
    · rw [show setC c 7 (p : Int) (o : Int) 0 0 = c 0 0 from if_neg (fun z => by cases z.1), up_row (show (45 : Nat) ≠ 44 by omega), up_row (show (132 : Nat) ≠ 131 by omega), up_row (show (132 : Nat) ≠ 131 by omega)]
      exact a5
  have P4 : TpR r g4 m4 := TpR.fr (gT := upM g3 44 (p : Int) (o : Int)) (gM := upM (upM m3 131 2062 (o : Int)) 131 (1656 + (10 + 5 * (p : Int)) + 4) (o : Int)) (((P3.uM (by omega)).uM (by omega)).uT (by omega)) v5 v6
  rcases p_semi (xs := xs) (d := d) S4 with ⟨g9, m9, k9, f9, e9, j1, j2, S9, j4, j5, j6⟩ | ⟨g9, m9, j1, j2, j3⟩
  · refine Or.inl ⟨g9, m9, k9, f9, e9, _, _, ?_, ?_, S9, by omega, D4.fr j5 j6, P4.fr j5 j6⟩
    · rw [tend, j1]
      rfl
    · rw [e_M_mapPart_26, if_neg (by decide), if_pos (by decide), mend]
      refine cI_of rfl ?_
      rw [if_neg (by decide), j2]
      rfl
  · refine Or.inr ⟨g9, m9, ?_, ?_, j3⟩
    · rw [tend, j1]
      rfl
    · rw [e_M_mapPart_26, if_neg (by decide), if_pos (by decide), mend]
      refine cI_of rfl ?_
      rw [if_neg (by decide), j2]
      rfl
theorem Out.t {oT oT' oM oM' : Option (List mv × mM)} (h : Out hT hM tx N f oT oM) (e1 : ∀ v g, (v = 0 ∨ v = 1) → oT = some ([mI v], g) → oT' = some ([mI v], g)) (e2 : oM' = oM) : Out hT hM tx N f oT' oM' := by
  subst e2
  rcases h with ⟨a1, a2, a3, a4, a5, a6, a7, b1, b2, b3⟩ | ⟨a1, a2, b1, b2⟩
  · exact Or.inl ⟨a1, a2, a3, a4, a5, a6, a7, e1 1 _ (Or.inr rfl) b1, b2, b3⟩
  · exact Or.inr ⟨a1, a2, e1 0 _ (Or.inl rfl) b1, b2⟩
theorem p_part (S : RdS hT hM tx N k f e gT gM) (D : DrR c gT gM) (P : TpR r gT gM) : Out hT hM tx N f (C xs d 283 0 [mR 37] gT) (C xs d 119 0 [mR 130] gM) := by
  have R := S.wd
  unfold WdR at R
  have pass : ∀ (o : Option (List mv × mM)) (v : Int) g, (v = 0 ∨ v = 1) → o = some ([mI v], g) → cI o (fun v1 h1 => (if 0 ≤ v1 ∧ v1 ≤ 1 then some ([mI v1], h1) else none)) = some ([mI v], g) := fun o v g hv ho => by
    rw [ho]
    refine cI_of rfl ?_
    rw [if_pos (by omega)]
  have pre : ∀ x, (6 < x ∨ x < 1) → tWd k = x → C xs d 283 0 [mR 37] gT = X xs d k_MR_readPart 14 [mR 37, mI x] [] gT := fun x hx hk => by
    rw [c_MR_readPart, S.w9, hk]
    by_cases z : x < 1
    · rw [if_pos z]
    · rw [if_neg z, if_pos (by omega)]
  by_cases z1 : 1 ≤ tWd k ∧ tWd k ≤ 6
  · obtain ⟨t, ht⟩ : ∃ t : Nat, tWd k = ((t + 1 : Nat) : Int) := ⟨(tWd k - 1).toNat, by omega⟩
    refine (p_rule (xs := xs) (d := d) S D P (t := t) (by omega) ht).t (fun v g hv ho => ?_) rfl
    rw [c_MR_readPart, S.w9, if_neg (by omega), if_neg (by omega), ht]
    exact pass _ v g hv ho
  by_cases z2 : tWd k = 7
  · refine (p_person (xs := xs) (d := d) S D P z2).t (fun v g hv ho => ?_) ?_
    · rw [pre 7 (by omega) z2, e_MR_readPart_14, if_pos rfl]
      exact pass _ v g hv ho
    · rw [c_M_mapPart]
      refine cI_of (S.wM) ?_
      rw [if_neg (by omega), if_neg (by omega), if_pos (by omega), show mWd k = 6 by omega]
  by_cases z3 : tWd k = 12
  · refine (p_toast (xs := xs) (d := d) S D P z3).t (fun v g hv ho => ?_) ?_
    · rw [pre 12 (by omega) z3, e_MR_readPart_14, if_neg (by omega), if_pos rfl]
      exact pass _ v g hv ho
    · rw [c_M_mapPart]
      refine cI_of (S.wM) ?_
      rw [if_neg (by omega), if_neg (by omega), if_pos (by omega), show mWd k = 7 by omega]
  refine Or.inr ⟨_, _, ?_, ?_, S.fault (why := 2) (by omega)⟩
  · rw [pre (tWd k) (by omega) rfl, e_MR_readPart_14, if_neg z2, if_neg z3]
    exact pass _ 0 _ (Or.inl rfl) (S.oT 2)
  · rw [c_M_mapPart]
    refine cI_of (S.wM) ?_
    by_cases u : mWd k < 0
    · rw [if_pos u]
      refine cI_of (S.oM 2) ?_
      rfl
    · rw [if_neg u, if_pos (by omega)]
      refine cI_of (S.oM 2) ?_
      rfl
/-- the whole text -/
theorem p_parts (x1 : Int) : ∀ (m i : Nat) (k : Tk) (f e : Nat) (gT gM : mM) (c : Kc) (r : Nat), N < f + m → i ≤ f → RdS hT hM tx N k f e gT gM → DrR c gT gM → TpR r gT gM → (∃ gT' gM' c', X xs d k_MR_readMap 12 [mR 37, mI x1, mI (i : Int)] [] gT = some ([mI 1], gT') ∧ X xs d k_M_map 17 [mR 130, mI x1, mI 1, mC 0] [] gM = X xs d k_M_map 26 [mR 130, mI x1, mI 1, mC 0] [] gM' ∧ FrT hT gT' ∧ FrM hM gM' ∧ (gT' 9 11 = 0 ∧ gT' 9 12 = -1) ∧ (gM' 130 18 = 0 ∧ gM' 130 17 = -1) ∧ DrR c' gT' gM') ∨ (∃ gT' gM', X xs d k_MR_readMap 12 [mR 37, mI x1, mI (i : Int)] [] gT = some ([mI 0], gT') ∧ X xs d k_M_map 17 [mR 130, mI x1, mI 1, mC 0] [] gM = X xs d k_M_map 26 [mR 130, mI x1, mI 0, mC 0] [] gM' ∧ Flt hT hM gT' gM') := by
  intro m
  induction m with
  | zero =>
    intro i k f e gT gM c r hm hi S D P
    have := S.2.2.2.2.2.1.2.1
    omega
  | succ m ih =>
    intro i k f e gT gM c r hm hi S D P
    have fN := S.2.2.2.2.2.1.2.1
    have hN := S.2.2.1
    have t5 : gT 9 5 = k.1 := S.2.2.2.1.2.2.1
    have m12 : gM 130 12 = kdM k := S.2.2.2.2.1.2.2.1
    have kr := S.2.2.2.2.2.1.1
    rw [e_MR_readMap_12, e_M_map_17, c_Tp_isAtEnd, t5, m12, if_neg (show ¬ (900 : Int) < (i : Int) by omega), if_neg (show ¬ (1 : Int) = 0 by decide)]
    by_cases z : k.1 = 0
    · refine Or.inl ⟨gT, gM, c, ?_, ?_, S.2.2.2.2.2.2.2.2.2.1, S.2.2.2.2.2.2.2.2.2.2, S.2.2.2.2.2.2.2.1, S.2.2.2.2.2.2.2.2.1, D⟩
      · rw [if_pos z]
        refine cI_of rfl ?_
        rw [if_neg (by decide)]
      · rw [if_pos]
        unfold kdM
        rw [if_neg (by omega), if_neg (by omega), if_neg (by omega), if_neg (by omega)]
    · have k0 : kdM k ≠ 0 := by
        unfold kdM
        have : k.1 = 1 ∨ k.1 = 2 ∨ k.1 = 3 ∨ k.1 = 4 := by omega
        rcases this with y | y | y | y <;> simp [y]
      have hT0 : ∀ o r, cI o (fun v2 h2 => (if v2 = (0 : Int) then some ([mI 0], h2) else (if inI ((i : Int) + 1) then X xs d k_MR_readMap 12 [mR 37, mI x1, mI ((i : Int) + 1)] [] h2 else none))) = r → C xs d 283 0 [mR 37] gT = o → cI (if k.1 = 0 then some ([mI 1], gT) else some ([mI 0], gT)) (fun v1 h1 => (if v1 = (0 : Int) then cI (C xs d 283 0 [mR 37] h1) (fun v2 h2 => (if v2 = (0 : Int) then some ([mI 0], h2) else (if inI ((i : Int) + 1) then X xs d k_MR_readMap 12 [mR 37, mI x1, mI ((i : Int) + 1)] [] h2 else none))) else some ([mI 1], h1))) = r := fun o r h1 h2 => by
        rw [if_neg z]
        refine cI_of rfl ?_
        rw [if_pos rfl, h2]
        exact h1
      rw [if_neg k0]
      rcases p_part (xs := xs) (d := d) S D P with ⟨g1, m1, k1, f1, e1, c1, r1, u1, u2, u3, u4, u5, u6⟩ | ⟨g1, m1, u1, u2, u3⟩
      · rcases ih (i + 1) k1 f1 e1 g1 m1 c1 r1 (by omega) (by omega) u3 u5 u6 with ⟨g2, m2, c2, v1, v2, v3⟩ | ⟨g2, m2, v1, v2, v3⟩
        · refine Or.inl ⟨g2, m2, c2, hT0 _ _ ?_ u1, ?_, v3⟩
          · refine cI_of rfl ?_
            rw [if_neg (by decide)]
            refine if_y (by omega) ?_
            exact v1
          · rw [u2]
            exact cI_of rfl v2
        · refine Or.inr ⟨g2, m2, hT0 _ _ ?_ u1, ?_, v3⟩
          · refine cI_of rfl ?_
            rw [if_neg (by decide)]
            refine if_y (by omega) ?_
            exact v1
          · rw [u2]
            exact cI_of rfl v2
      · refine Or.inr ⟨g1, m1, hT0 _ _ ?_ u1, ?_, u3⟩
        · refine cI_of rfl ?_
          rw [if_pos rfl]
        · rw [u2]
          refine cI_of rfl ?_
          rw [e_M_map_17, if_pos rfl]
end
