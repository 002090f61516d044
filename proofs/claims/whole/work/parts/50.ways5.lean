/-! EQUIV 20: fits, firstOf, oddsThat, ask -/
section
variable {xs : List Int} {d : Nat} {h : mM} {c : Kc}
theorem WyF.keep {g g' : mM} (f : WyF g g') : Keep g g' := ⟨fun a z => f.1 a (fun e => by subst e; exact absurd z (by decide)) (fun e => by subst e; exact absurd z (by decide)) (fun e => by subst e; exact absurd z (by decide)) (fun e => by subst e; exact absurd z (by decide)), fun k _ => by rw [f.1 0 (by omega) (by omega) (by omega) (by omega)], fun k hk => f.2 k (by omega), fun k _ => by rw [f.1 131 (by omega) (by omega) (by omega) (by omega)]⟩
theorem Keep.wy {g : mM} (o : Ow [111, 112, 113, 114] h g) : Keep h g := Keep.ow o (fun a ha => by
  simp only [List.mem_cons, List.not_mem_nil, or_false] at ha
  rcases ha with rfl | rfl | rfl | rfl <;> decide)
/-- whom each may warm, by the nights in a tray -/
abbrev alH (c : Kc) (h : mM) (x y : Int) : Nat → Nat := alW (c 0 0).toNat (snD h x) (snW h x) y.toNat
theorem alH_lt (w : WfC c) {x y : Int} (p : Nat) : alH c h x y p < 128 := alW_lt (by have := w.1; omega) _ _
theorem m_ways (T : TrR h) (w : WfC c) {g : mM} (kM : CoM c g) (e135 : g 135 = h 135) {x y : Int} (e : wyS h (2 ^ (c 0 0).toNat) x y = 0) : ∃ g', C xs d 188 0 [mR 130, mI x, mI y] g = some ([], g') ∧ Acc (c 0 0).toNat (allW (c 0 0).toNat (alH c h x y)) g' ∧ WyF g g' := by
  obtain ⟨hx, hm, h8, hl, ok⟩ := wyS_ok e
  obtain ⟨t1, t2, t3, t4, t5⟩ := T.at' hx
  have hc := w.1
  have hn : (c 0 0).toNat ≤ 7 := by omega
  have p7 := pow_le7 hn
  have n0 : g 131 0 = (((c 0 0).toNat : Nat) : Int) := by rw [kM.n]; omega
  have ok2 : ∀ i, i < y.toNat → (0 ≤ h (3 + x.toNat) ((2 * i : Nat) : Int) ∧ h (3 + x.toNat) ((2 * i : Nat) : Int) < ((2 ^ (c 0 0).toNat : Nat) : Int)) ∧ (0 ≤ h (3 + x.toNat) ((2 * i + 1 : Nat) : Int) ∧ h (3 + x.toNat) ((2 * i + 1 : Nat) : Int) < ((2 ^ (c 0 0).toNat : Nat) : Int)) := fun i hi => ⟨ok (2 * i) (by omega), ok (2 * i + 1) (by omega)⟩
  have sn : Sn g x (snD h x) (snW h x) y.toNat := fun i hi => by
    have := ok2 i hi
    rw [e135, ← (t5 ((2 * i : Nat) : Int) (by omega) (by omega)).1, ← (t5 ((2 * i + 1 : Nat) : Int) (by omega) (by omega)).1]
    unfold snD snW
    exact ⟨by omega, by omega⟩
  have := m_laysWays (xs := xs) (d := d) hn n0 hx (m := y.toNat) (by omega) (D := snD h x) (W := snW h x) (fun i hi => by have := ok2 i hi; unfold snD; omega) (fun i hi => by have := ok2 i hi; unfold snW; omega) sn
  rwa [show ((y.toNat : Nat) : Int) = y by omega] at this
theorem acc_len {n : Nat} {al : Nat → Nat} {g : mM} (A : Acc n (allW n al) g) : g 130 34 = nB n al n 0 0 := by rw [A.1]; exact wyL_len n 0 _ 0
theorem acc_cnt {n : Nat} {al : Nat → Nat} {g : mM} (A : Acc n (allW n al) g) {p o : Nat} (hp : p < n) (ho : o < n) : g 145 ((7 * p + o : Nat) : Int) = thrW n al o p 0 0 := by
  rw [A.2.1 p o hp ho]
  exact wyL_cnt ho n 0 _ 0 (by omega) (by omega) hp
theorem acc_fst {n : Nat} {al : Nat → Nat} {g : mM} (hn : n ≤ 7) (A : Acc n (allW n al) g) (pos : 0 < nB n al n 0 0) {p : Nat} (hp : p < n) : g 144 (p : Int) = ((fW n al p 0 0 : Nat) : Int) := by
  obtain ⟨w', u1, u2⟩ := wyL_head hn n 0 (fun _ => 0) 0 (by omega) pos
  have := u2 p hp
  rw [Nat.zero_add] at this
  rw [A.2.2 w' u1 p hp, this]
theorem q_fits (R : Rel h) (x y : Int) : QI xs d h 44 189 [mI x, mI y] := by
  obtain ⟨c, k⟩ := R.co
  have kT := k.1
  have kM := CoM.z.mp k.2.1
  have w := k.2.2.1
  have T := R.tp
  have ps := wyS_pos (h := h) (2 ^ (c 0 0).toNat) x y
  by_cases q : wyS h (2 ^ (c 0 0).toNat) x y = 0
  rotate_left
  · refine QI.ans R (wyS h (2 ^ (c 0 0).toNat) x y) (-1) ?_ ?_
    · rw [c_T_fits]
      refine cI_of (t_waysStatus kT w x y) ?_
      refine if_n (q) ?_
      refine cI_of (c_T_refuse xs d _ _) ?_
      rfl
    · rw [c_M_fits]
      refine cI_of (m_wrongSeen T (up_row (by omega)) (up_row (by omega)) (kM.z0 _) w x y) ?_
      refine if_y (by omega) ?_
      refine cI_of (c_M_refuse xs d _ _) ?_
      rfl
  obtain ⟨g1, r1, s1, o1⟩ := t_findWays (xs := xs) (d := d) c kT w q
  have kM1 : CoM c (upM g1 0 0 0) := kM.mv (by rw [up_row (by omega), o1 131 (by decide)])
  obtain ⟨g2, r2, A, f2⟩ := m_ways (xs := xs) (d := d) T w kM1 (by rw [up_row (by omega), o1 135 (by decide)]) q
  refine QI.mkU R k (nB (c 0 0).toNat (alH c h x y) (c 0 0).toNat 0 0) 0 (g1 := g1) (g2 := g2) ?_ (kT.mv (fun a h1 h2 => o1 a (by simp; omega))) (Keep.wy o1) ?_ (kM1.mv (f2.1 131 (by omega) (by omega) (by omega) (by omega))) f2.keep (fun a h1 h2 => by rw [f2.1 a (by omega) (by omega) (by omega) (by omega), up_row (by omega)]) (f2.1 0 (by omega) (by omega) (by omega) (by omega)) w k.2.2.2.1 rfl
  · rw [c_T_fits]
    refine cI_of (t_waysStatus kT w x y) ?_
    refine if_y (q) ?_
    refine cV_of (r1) ?_
    refine cI_of (t_wyAll s1) ?_
    refine cI_of (c_T_answer xs d _ _) ?_
    rfl
  · rw [c_M_fits]
    refine cI_of (m_wrongSeen T (by rw [up_row (by omega), o1 134 (by decide)]) (by rw [up_row (by omega), o1 135 (by decide)]) kM1 w x y) ?_
    refine if_n (by omega) ?_
    refine cV_of (r2) ?_
    rw [acc_len A]
    refine cI_of (c_M_gives xs d _ _) ?_
    rfl
theorem q_firstOf (R : Rel h) (x y z : Int) : QI xs d h 45 190 [mI x, mI y, mI z] := by
  obtain ⟨c, k⟩ := R.co
  have kT := k.1
  have kM := CoM.z.mp k.2.1
  have w := k.2.2.1
  have hc := w.1
  have T := R.tp
  have ps := wyS_pos (h := h) (2 ^ (c 0 0).toNat) x y
  by_cases qp : 0 ≤ z ∧ z < c 0 0
  rotate_left
  · refine QI.ans R 1 (-1) ?_ ?_
    · rw [c_T_firstOf]
      refine cI_of (t_has12 kT z) ?_
      refine if_y (b2i_0.mpr qp) ?_
      rw [e_T_firstOf_11]
      refine if_n (by omega) ?_
      refine cI_of (c_T_refuse xs d _ _) ?_
      rfl
    · rw [c_M_firstOf]
      refine cI_of (m_isPerson (kM.z0 1) z) ?_
      refine if_y (b2i_0.mpr qp) ?_
      rw [e_M_firstOf_10]
      refine if_y (by omega) ?_
      refine cI_of (c_M_refuse xs d _ _) ?_
      rfl
  by_cases q : wyS h (2 ^ (c 0 0).toNat) x y = 0
  rotate_left
  · refine QI.ans R (wyS h (2 ^ (c 0 0).toNat) x y) (-1) ?_ ?_
    · rw [c_T_firstOf]
      refine cI_of (t_has12 kT z) ?_
      refine if_n ((fun u => b2i_0.mp u qp)) ?_
      refine cI_of (t_waysStatus kT w x y) ?_
      rw [e_T_firstOf_11]
      refine if_n (q) ?_
      refine cI_of (c_T_refuse xs d _ _) ?_
      rfl
    · rw [c_M_firstOf]
      refine cI_of (m_isPerson (kM.z0 _) z) ?_
      refine if_n ((fun u => b2i_0.mp u qp)) ?_
      refine cI_of (m_wrongSeen T (up_row (by omega)) (up_row (by omega)) (kM.z0 _) w x y) ?_
      rw [e_M_firstOf_10]
      refine if_y (by omega) ?_
      refine cI_of (c_M_refuse xs d _ _) ?_
      rfl
  obtain ⟨g1, r1, s1, o1⟩ := t_findWays (xs := xs) (d := d) c kT w q
  have hn : (c 0 0).toNat ≤ 7 := by omega
  have nb := nB_top (al := alH c h x y) hn (c 0 0).toNat 0 0 hn
  obtain ⟨p, rfl⟩ : ∃ p : Nat, z = (p : Int) := ⟨z.toNat, by omega⟩
  have go : ∀ (v s : Int), (∀ g2, Acc (c 0 0).toNat (allW (c 0 0).toNat (alH c h x y)) g2 → X xs d k_T_firstOf 11 [mR 0, mI x, mI y, mI (p : Int), mC 0] [mI 0] h = some ([mI v], upM g1 0 0 s) ∧ ∀ g, C xs d 188 0 [mR 130, mI x, mI y] g = some ([], g2) → X xs d k_M_firstOf 10 [mR 130, mI x, mI y, mI (p : Int), mC 0] [mI 0] g = some ([mI v], upM g2 130 2 s)) → QI xs d h 45 190 [mI x, mI y, mI (p : Int)] := by
    intro v s H
    have kM1 : CoM c (upM g1 0 0 s) := kM.mv (by rw [up_row (by omega), o1 131 (by decide)])
    obtain ⟨g2, r2, A, f2⟩ := m_ways (xs := xs) (d := d) T w kM1 (by rw [up_row (by omega), o1 135 (by decide)]) q
    obtain ⟨H1, H2⟩ := H g2 A
    refine QI.mkU R k v s (g1 := g1) (g2 := g2) ?_ (kT.mv (fun a h1 h2 => o1 a (by simp; omega))) (Keep.wy o1) ?_ (kM1.mv (f2.1 131 (by omega) (by omega) (by omega) (by omega))) f2.keep (fun a h1 h2 => by rw [f2.1 a (by omega) (by omega) (by omega) (by omega), up_row (by omega)]) (f2.1 0 (by omega) (by omega) (by omega) (by omega)) w k.2.2.2.1 rfl
    · rw [c_T_firstOf]
      refine cI_of (t_has12 kT _) ?_
      refine if_n ((fun u => b2i_0.mp u qp)) ?_
      refine cI_of (t_waysStatus kT w x y) ?_
      rw [q]
      exact H1
    · rw [c_M_firstOf]
      refine cI_of (m_isPerson kM1 _) ?_
      refine if_n ((fun u => b2i_0.mp u qp)) ?_
      refine cI_of (m_wrongSeen T (by rw [up_row (by omega), o1 134 (by decide)]) (by rw [up_row (by omega), o1 135 (by decide)]) kM1 w x y) ?_
      rw [q]
      exact H2 _ r2
  by_cases pos : nB (c 0 0).toNat (alH c h x y) (c 0 0).toNat 0 0 = 0
  · refine go (-1) 6 (fun g2 A => ⟨?_, fun g r2 => ?_⟩)
    · rw [e_T_firstOf_11]
      refine if_y (by omega) ?_
      refine cV_of (r1) ?_
      refine cI_of (t_wyAll s1) ?_
      refine if_y (pos) ?_
      refine cI_of (c_T_refuse xs d _ _) ?_
      rfl
    · rw [e_M_firstOf_10]
      refine if_n (by omega) ?_
      refine cV_of (r2) ?_
      refine if_y ((by rw [acc_len A]; exact pos)) ?_
      refine cI_of (c_M_refuse xs d _ _) ?_
      rfl
  · refine go ((fW (c 0 0).toNat (alH c h x y) p 0 0 : Nat) : Int) 0 (fun g2 A => ⟨?_, fun g r2 => ?_⟩)
    · rw [e_T_firstOf_11]
      refine if_y (by omega) ?_
      refine cV_of (r1) ?_
      refine cI_of (t_wyAll s1) ?_
      refine if_n (pos) ?_
      refine cI_of (t_firstWhom (al := alH c h x y) hn (fun p => alH_lt w p) s1 (by omega) (by omega)) ?_
      refine cI_of (c_T_answer xs d _ _) ?_
      rfl
    · rw [e_M_firstOf_10]
      refine if_n (by omega) ?_
      refine cV_of (r2) ?_
      refine if_n ((by rw [acc_len A]; exact pos)) ?_
      refine if_y (by omega) ?_
      rw [acc_fst hn A (by omega) (by omega)]
      refine cI_of (c_M_gives xs d _ _) ?_
      rfl
theorem q_oddsThat (R : Rel h) (x y z u : Int) : QI xs d h 46 191 [mI x, mI y, mI z, mI u] := by
  obtain ⟨c, k⟩ := R.co
  have kT := k.1
  have kM := CoM.z.mp k.2.1
  have w := k.2.2.1
  have hc := w.1
  have T := R.tp
  have ps := wyS_pos (h := h) (2 ^ (c 0 0).toNat) x y
  by_cases qp : (0 ≤ z ∧ z < c 0 0) ∧ (0 ≤ u ∧ u < c 0 0) ∧ z ≠ u
  rotate_left
  · refine QI.ans R 1 0 ?_ ?_
    · rw [c_T_oddsThat]
      refine cI_of (t_isCouple kT z u) ?_
      refine if_y (b2i_0.mpr qp) ?_
      rw [e_T_oddsThat_11]
      refine if_n (by omega) ?_
      refine cI_of (c_T_deny xs d _ _) ?_
      refine if_y (by omega) ?_
      rfl
    · rw [c_M_oddsThat]
      refine cI_of (m_areTwo (kM.z0 1) z u) ?_
      refine if_y (b2i_0.mpr qp) ?_
      rw [e_M_oddsThat_11]
      refine if_y (by omega) ?_
      refine cI_of (m_isNo (by omega)) ?_
      refine if_y (by omega) ?_
      rfl
  by_cases q : wyS h (2 ^ (c 0 0).toNat) x y = 0
  rotate_left
  · refine QI.ans R (wyS h (2 ^ (c 0 0).toNat) x y) 0 ?_ ?_
    · rw [c_T_oddsThat]
      refine cI_of (t_isCouple kT z u) ?_
      refine if_n ((fun u => b2i_0.mp u qp)) ?_
      refine cI_of (t_waysStatus kT w x y) ?_
      rw [e_T_oddsThat_11]
      refine if_n (q) ?_
      refine cI_of (c_T_deny xs d _ _) ?_
      refine if_y (by omega) ?_
      rfl
    · rw [c_M_oddsThat]
      refine cI_of (m_areTwo (kM.z0 _) z u) ?_
      refine if_n ((fun u => b2i_0.mp u qp)) ?_
      refine cI_of (m_wrongSeen T (up_row (by omega)) (up_row (by omega)) (kM.z0 _) w x y) ?_
      rw [e_M_oddsThat_11]
      refine if_y (by omega) ?_
      refine cI_of (m_isNo q) ?_
      refine if_y (by omega) ?_
      rfl
  obtain ⟨g1, r1, s1, o1⟩ := t_findWays (xs := xs) (d := d) c kT w q
  have hn : (c 0 0).toNat ≤ 7 := by omega
  have nb := nB_top (al := alH c h x y) hn (c 0 0).toNat 0 0 hn
  obtain ⟨⟨z1, z2⟩, ⟨u1, u2⟩, zu⟩ := id qp
  obtain ⟨p, rfl⟩ : ∃ p : Nat, z = (p : Int) := ⟨z.toNat, by omega⟩
  obtain ⟨o, rfl⟩ : ∃ p : Nat, u = (p : Int) := ⟨u.toNat, by omega⟩
  have th := thrW_top (al := alH c h x y) (o := o) hn (p := p) (by omega)
  have fr : ∀ a, 12 ≤ a → a ≤ 18 → g1 a = h a := fun a h1 h2 => o1 a (by simp; omega)
  by_cases pos : nB (c 0 0).toNat (alH c h x y) (c 0 0).toNat 0 0 = 0
  · have kM1 : CoM c (upM g1 0 0 6) := kM.mv (by rw [up_row (by omega), o1 131 (by decide)])
    obtain ⟨g2, r2, A, f2⟩ := m_ways (xs := xs) (d := d) T w kM1 (by rw [up_row (by omega), o1 135 (by decide)]) q
    refine QI.mkU R k 0 6 (g1 := g1) (g2 := g2) ?_ (kT.mv (fun a h1 h2 => o1 a (by simp; omega))) (Keep.wy o1) ?_ (kM1.mv (f2.1 131 (by omega) (by omega) (by omega) (by omega))) f2.keep (fun a h1 h2 => by rw [f2.1 a (by omega) (by omega) (by omega) (by omega), up_row (by omega)]) (f2.1 0 (by omega) (by omega) (by omega) (by omega)) w k.2.2.2.1 rfl
    · rw [c_T_oddsThat]
      refine cI_of (t_isCouple kT _ _) ?_
      refine if_n ((fun u => b2i_0.mp u qp)) ?_
      refine cI_of (t_waysStatus kT w x y) ?_
      rw [q, e_T_oddsThat_11]
      refine if_y (by omega) ?_
      refine cV_of (r1) ?_
      refine cI_of (t_wyAll s1) ?_
      refine if_y (pos) ?_
      refine cI_of (c_T_deny xs d _ _) ?_
      refine if_y (by omega) ?_
      rfl
    · rw [c_M_oddsThat]
      refine cI_of (m_areTwo kM1 _ _) ?_
      refine if_n ((fun u => b2i_0.mp u qp)) ?_
      refine cI_of (m_wrongSeen T (by rw [up_row (by omega), o1 134 (by decide)]) (by rw [up_row (by omega), o1 135 (by decide)]) kM1 w x y) ?_
      rw [q, e_M_oddsThat_11]
      refine if_n (by omega) ?_
      refine cV_of (r2) ?_
      refine if_y ((by rw [acc_len A]; exact pos)) ?_
      refine cI_of (m_isNo (by omega)) ?_
      refine if_y (by omega) ?_
      rfl
  · obtain ⟨P, hP⟩ : ∃ P : Nat, thrW (c 0 0).toNat (alH c h x y) o p 0 0 = (P : Int) := ⟨(thrW (c 0 0).toNat (alH c h x y) o p 0 0).toNat, by omega⟩
    obtain ⟨N, hN⟩ : ∃ N : Nat, nB (c 0 0).toNat (alH c h x y) (c 0 0).toNat 0 0 = (N : Int) := ⟨(nB (c 0 0).toNat (alH c h x y) (c 0 0).toNat 0 0).toNat, by omega⟩
    have kM1 : CoM c (upM (upM (upM g1 0 1 ((P / Nat.gcd N P : Nat) : Int)) 0 2 ((N / Nat.gcd N P : Nat) : Int)) 0 0 0) := (kM.mv (o1 131 (by decide))).z3 _ _ _
    obtain ⟨g2, r2, A, f2⟩ := m_ways (xs := xs) (d := d) T w kM1 (by rw [up_row (by omega), up_row (by omega), up_row (by omega), o1 135 (by decide)]) q
    have lt90 : (823544 : Nat) < 2 ^ 90 := by decide
    refine QI.mkTell R k 1 ((P / Nat.gcd N P : Nat) : Int) ((N / Nat.gcd N P : Nat) : Int) (g1 := g1) (g2 := g2) ?_ (kT.mv (fun a h1 h2 => o1 a (by simp; omega))) (Keep.wy o1) ?_ (kM1.mv (f2.1 131 (by omega) (by omega) (by omega) (by omega))) f2.keep (fun a h1 h2 => by rw [f2.1 a (by omega) (by omega) (by omega) (by omega), up_row (by omega), up_row (by omega), up_row (by omega)]) (by rw [f2.1 0 (by omega) (by omega) (by omega) (by omega)])
    · rw [c_T_oddsThat]
      refine cI_of (t_isCouple kT _ _) ?_
      refine if_n ((fun u => b2i_0.mp u qp)) ?_
      refine cI_of (t_waysStatus kT w x y) ?_
      rw [q, e_T_oddsThat_11]
      refine if_y (by omega) ?_
      refine cV_of (r1) ?_
      refine cI_of (t_wyAll s1) ?_
      refine if_n (pos) ?_
      refine cI_of (t_through (al := alH c h x y) hn (fun p => alH_lt w p) s1 (by omega) (by omega)) ?_
      refine cI_of (t_wyAll s1) ?_
      rw [hP, hN]
      refine cI_of (t_tell (by omega) (by omega)) ?_
      refine if_y (by omega) ?_
      rfl
    · rw [c_M_oddsThat]
      refine cI_of (m_areTwo kM1 _ _) ?_
      refine if_n ((fun u => b2i_0.mp u qp)) ?_
      refine cI_of (m_wrongSeen T (by rw [up_row (by omega), up_row (by omega), up_row (by omega), o1 134 (by decide)]) (by rw [up_row (by omega), up_row (by omega), up_row (by omega), o1 135 (by decide)]) kM1 w x y) ?_
      rw [q, e_M_oddsThat_11]
      refine if_n (by omega) ?_
      refine cV_of (r2) ?_
      refine if_n ((by rw [acc_len A]; exact pos)) ?_
      refine if_y (by omega) ?_
      refine if_y (by omega) ?_
      refine if_y (by omega) ?_
      rw [show 7 * (p : Int) + (o : Int) = ((7 * p + o : Nat) : Int) by omega, acc_cnt A (by omega) (by omega), acc_len A, hP, hN]
      refine cI_of (m_tells (by omega)) ?_
      refine if_y (by omega) ?_
      rfl
theorem m_mostAlike {n : Nat} {al : Nat → Nat} {g : mM} (hn : n ≤ 7) (n0 : g 131 0 = (n : Int)) (A : Acc n (allW n al) g) {p : Nat} (hp : p < n) : C xs d 192 0 [mR 130, mI (p : Int)] g = some ([mI (mstW n al p n)], g) := by
  rw [c_M_mostAlike]
  have st : ∀ i : Nat, i < n → X xs d k_M_mostAlike 4 [mR 130, mI (p : Int), mI (mstW n al p i), mI (i : Int)] [] g = X xs d k_M_mostAlike 4 [mR 130, mI (p : Int), mI (mstW n al p (i + 1)), mI ((i + 1 : Nat) : Int)] [] g := by
    intro i hi
    rw [e_M_mostAlike_4, n0]
    refine if_y (by omega) ?_
    refine if_y (by omega) ?_
    refine if_y (by omega) ?_
    refine if_y (by omega) ?_
    refine if_y (by omega) ?_
    rw [show 7 * (p : Int) + (i : Int) = ((7 * p + i : Nat) : Int) by omega, acc_cnt A hp hi, mstW]
    rfl
  refine (run_to (fun i : Nat => X xs d k_M_mostAlike 4 [mR 130, mI (p : Int), mI (mstW n al p i), mI (i : Int)] [] g) st).trans ?_
  rw [e_M_mostAlike_4, n0]
  refine if_n (by omega) ?_
  rfl
theorem q_ask (R : Rel h) (x y : Int) : QI xs d h 47 193 [mI x, mI y] := by
  obtain ⟨c, k⟩ := R.co
  have kT := k.1
  have kM := CoM.z.mp k.2.1
  have w := k.2.2.1
  have hc := w.1
  have T := R.tp
  have ps := wyS_pos (h := h) (2 ^ (c 0 0).toNat) x y
  by_cases q : wyS h (2 ^ (c 0 0).toNat) x y = 0
  rotate_left
  · refine QI.ans R (wyS h (2 ^ (c 0 0).toNat) x y) (-1) ?_ ?_
    · rw [c_T_ask]
      refine cI_of (t_waysStatus kT w x y) ?_
      refine if_n (q) ?_
      refine cI_of (c_T_refuse xs d _ _) ?_
      rfl
    · rw [c_M_ask]
      refine cI_of (m_wrongSeen T (up_row (by omega)) (up_row (by omega)) (kM.z0 _) w x y) ?_
      refine if_y (by omega) ?_
      refine cI_of (c_M_refuse xs d _ _) ?_
      rfl
  have hn : (c 0 0).toNat ≤ 7 := by omega
  have nb := nB_top (al := alH c h x y) hn (c 0 0).toNat 0 0 hn
  obtain ⟨g1, r1, s1, o1⟩ := t_findWays (xs := xs) (d := d) c kT w q
  have go : ∀ (v s : Int), (cI (C xs d 351 0 [mR 111] g1) (fun v3 h3 => (if v3 < (2 : Int) then cI (C xs d 68 0 [mR 0, mI 6] h3) (fun v6 h6 => some ([mI v6], h6)) else cI (C xs d 355 0 [mR 111] h3) (fun v4 h4 => cI (C xs d 67 0 [mR 0, mI v4] h4) (fun v5 h5 => some ([mI v5], h5))))) = some ([mI v], upM g1 0 0 s)) → (∀ g2, Acc (c 0 0).toNat (allW (c 0 0).toNat (alH c h x y)) g2 → CoM c g2 → (if (g2 130 34) < (2 : Int) then cI (C xs d 82 0 [mR 130, mI 6] g2) (fun v3 h3 => some ([mI v3], h3)) else X xs d k_M_ask 27 [mR 130, mI x, mI y, mI 0, mI 0, mI 1] [] g2) = some ([mI v], upM g2 130 2 s)) → QI xs d h 47 193 [mI x, mI y] := by
    intro v s H1 H2
    have kM1 : CoM c (upM g1 0 0 s) := kM.mv (by rw [up_row (by omega), o1 131 (by decide)])
    obtain ⟨g2, r2, A, f2⟩ := m_ways (xs := xs) (d := d) T w kM1 (by rw [up_row (by omega), o1 135 (by decide)]) q
    have kM2 : CoM c g2 := kM1.mv (f2.1 131 (by omega) (by omega) (by omega) (by omega))
    refine QI.mkU R k v s (g1 := g1) (g2 := g2) ?_ (kT.mv (fun a h1 h2 => o1 a (by simp; omega))) (Keep.wy o1) ?_ kM2 f2.keep (fun a h1 h2 => by rw [f2.1 a (by omega) (by omega) (by omega) (by omega), up_row (by omega)]) (f2.1 0 (by omega) (by omega) (by omega) (by omega)) w k.2.2.2.1 rfl
    · rw [c_T_ask]
      refine cI_of (t_waysStatus kT w x y) ?_
      refine if_y (q) ?_
      refine cV_of (r1) ?_
      exact H1
    · rw [c_M_ask]
      refine cI_of (m_wrongSeen T (by rw [up_row (by omega), o1 134 (by decide)]) (by rw [up_row (by omega), o1 135 (by decide)]) kM1 w x y) ?_
      refine if_n (by omega) ?_
      refine cV_of (r2) ?_
      rw [q]
      exact H2 g2 A kM2
  by_cases few : nB (c 0 0).toNat (alH c h x y) (c 0 0).toNat 0 0 < 2
  · refine go (-1) 6 ?_ (fun g2 A kM2 => ?_)
    · refine cI_of (t_wyAll s1) ?_
      refine if_y (few) ?_
      refine cI_of (c_T_refuse xs d _ _) ?_
      rfl
    · refine if_y ((by rw [acc_len A]; exact few)) ?_
      refine cI_of (c_M_refuse xs d _ _) ?_
      rfl
  · have n1 : 0 < (c 0 0).toNat := by
      rcases Nat.eq_zero_or_pos (c 0 0).toNat with z | z
      · rw [z, nB] at few
        omega
      · exact z
    refine go ((askW (c 0 0).toNat (alH c h x y) (c 0 0).toNat : Nat) : Int) 0 ?_ (fun g2 A kM2 => ?_)
    · refine cI_of (t_wyAll s1) ?_
      refine if_n (few) ?_
      refine cI_of (t_bestAsked (al := alH c h x y) hn n1 (fun p => alH_lt w p) s1) ?_
      refine cI_of (c_T_answer xs d _ _) ?_
      rfl
    · refine if_n ((by rw [acc_len A]; exact few)) ?_
      have n0 : g2 131 0 = (((c 0 0).toNat : Nat) : Int) := by rw [kM2.n]; omega
      generalize alH c h x y = al at A ⊢
      generalize (c 0 0).toNat = n at A hn n1 n0 ⊢
      have key : ∀ (m i : Nat), i + m = n → 1 ≤ i → X xs d k_M_ask 27 [mR 130, mI x, mI y, mI 0, mI ((askW n al i : Nat) : Int), mI (i : Int)] [] g2 = some ([mI ((askW n al n : Nat) : Int)], upM g2 130 2 0) := by
        intro m
        induction m with
        | zero =>
          intro i hi h1
          obtain rfl : i = n := by omega
          rw [e_M_ask_27, n0]
          refine if_n (by omega) ?_
          refine cI_of (c_M_gives xs d _ _) ?_
          rfl
        | succ m ih =>
          intro i hi h1
          have lt := askW_lt (al := al) n1 i (by omega)
          rw [e_M_ask_27, n0]
          refine if_y (by omega) ?_
          refine cI_of (m_mostAlike hn n0 A (by omega)) ?_
          refine cI_of (m_mostAlike hn n0 A lt) ?_
          have nx := ih (i + 1) (by omega) (by omega)
          rw [askW, if_neg (by omega)] at nx
          by_cases z : mstW n al i n < mstW n al (askW n al i) n
          · rw [if_pos z] at nx
            refine if_y (z) ?_
            rw [e_M_ask_42]
            refine if_y (by omega) ?_
            exact nx
          · rw [if_neg z] at nx
            refine if_n (z) ?_
            rw [e_M_ask_42]
            refine if_y (by omega) ?_
            exact nx
      exact key (n - 1) 1 (by omega) (by omega)
end
