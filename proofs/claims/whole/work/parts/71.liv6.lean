/-! EQUIV 41: mean -/
section
variable {xs : List Int} {d : Nat} {h : mM}
abbrev meL : List Nat := [21, 22, 23, 24, 25, 26, 27, 28, 29, 109, 110]
def MeM (m0 gM : mM) : Prop := (∀ a, a ≠ 130 → a ≠ 131 → a ≠ 139 → a ≠ 150 → a ≠ 151 → gM a = m0 a) ∧ (∀ j, j ≠ 39 → j ≠ 40 → gM 130 j = m0 130 j) ∧ (∀ j, 0 ≤ j → j < 2070 → gM 131 j = m0 131 j) ∧ (∀ j, 0 ≤ j → j < 46 → gM 131 (2070 + j) = m0 131 j) ∧ ∀ j, inI (gM 150 j)
theorem mean_loop {c : Kc} (R : Rel h) (k : SlotR 12 30 c h 0 0) (th : h 30 8 = 1) {m0 : mM} (e131 : m0 131 = h 131) {x y : Int} (hx : 0 ≤ x) (hy : 1 ≤ y ∧ y ≤ 20) (hxy : x + y ≤ 10000) : ∀ (m : Nat) (i sum : Int) (gT gM : mM), i + m = y → 0 ≤ i → (0 ≤ sum ∧ sum ≤ 700 * i) → Ow meL h gT → MeM m0 gM → ∃ gT' gM' S, (0 ≤ S ∧ S ≤ 14000) ∧ X xs d k_T_mean 33 [mR 0, mI x, mI y, mI sum, mI i] [] gT = cI (C xs d 71 0 [mR 0, mL S, mL y] gT') (fun v1 h1 => (if 0 ≤ v1 ∧ v1 ≤ 1 then some ([mI v1], h1) else none)) ∧ X xs d k_M_mean 40 [mR 130, mI x, mI y, mL sum, mC 0, mI i] [] gM = cI (C xs d 84 0 [mR 130, mL S, mL y] gM') (fun v1 h1 => (if 0 ≤ v1 ∧ v1 ≤ 1 then some ([mI v1], h1) else none)) ∧ Ow meL h gT' ∧ MeM m0 gM' := by
  have kT := k.1
  have kM := CoM.z.mp k.2.1
  have w := k.2.2.1
  have hc := w.1
  have TI := k.2.2.2.2.2
  intro m
  induction m with
  | zero =>
    intro i sum gT gM hi i0 hs oT oM
    refine ⟨gT, gM, sum, by omega, ?_, ?_, oT, oM⟩
    · rw [e_T_mean_33, if_neg (by omega)]
    · rw [e_M_mean_40, if_neg (by omega)]
  | succ m ih =>
    intro i sum gT gM hi i0 hs oT oM
    obtain ⟨o1, o2, o3, o4, o5⟩ := oM
    have k12 : CoT 12 c gT := kT.mv (fun a h1 h2 => oT a (by simp; omega))
    obtain ⟨g1, s1, s2, -, s4⟩ := t_takeFrom (xs := xs) (d := d) (b0 := 21) (b1 := 12) (by omega) k12 hc
    have f1 : Ow meL h g1 := oT.tr s4 (fun _ z => z) (fun a ha => by
      simp only [coL, List.mem_cons, List.not_mem_nil, or_false] at ha
      simp
      omega)
    have kMg : CoM c gM := kM.of131 hc.2 (fun j h1 h2 => by rw [o3 j h1 (by omega), e131])
    have TIg : TiR 30 (c 0 0) g1 (fun j => gM 131 (0 + j)) := TI.mv (fun a h1 h2 => f1 a (by simp; omega)) (fun j hj => by rw [Int.zero_add, o3 j (by omega) (by omega), e131])
    obtain ⟨g2, n2, c', t1, t2, F⟩ := lives_sim (xs := xs) (d := d) (b0 := 109) (b1 := 21) (Or.inr ⟨rfl, rfl⟩) s2 kMg w k.2.2.2.1 TIg (by rw [f1 30 (by simp)]; exact th) o5 (seed := x + i) (by omega)
    obtain ⟨⟨q1, q2, q3, q4⟩, q5, -, -, -, fT, fM, fH⟩ := F
    have wa := t_allWarmth (xs := xs) (d := d) (b := 21) (Or.inr rfl) q1 q3
    have wm := m_together (xs := xs) (d := d) q2 q3 (f := 2) (g := 5) (Or.inl ⟨rfl, rfl⟩)
    have sb := wsum_bd q3 (i := (c' 0 0).toNat) (Nat.le_refl _)
    have hc' := q3.1
    generalize sumN (fun p => c' 5 (p : Int)) (c' 0 0).toNat = W at wa wm sb
    have f2 : Ow meL h g2 := f1.tr fT (fun _ z => z) (fun a ha => by
      simp only [List.mem_cons, List.not_mem_nil, or_false] at ha
      simp
      omega)
    have m3 : MeM m0 (rsM n2 2070) := by
      refine ⟨fun a a1 a2 a3 a4 a5 => by rw [rsM, rowU_ne a2, fM.1 a a1 a2 a3 a4 a5, o1 a a1 a2 a3 a4 a5], fun j j1 j2 => by rw [rsM, rowU_ne (by omega), fM.2.1 j j1 j2, o2 j j1 j2], fun j j1 j2 => ?_, fun j j1 j2 => ?_, fun j => by rw [rsM, rowU_ne (by omega)]; exact fH j⟩
      · by_cases z : j < 46
        · rw [rsM, rowU_in ⟨j1, z⟩, fM.2.2 _ (by omega), o4 j j1 z]
        · rw [rsM, rowU_out (by omega), fM.2.2 j (by omega), o3 j j1 j2]
      · rw [rsM, rowU_out (by omega), fM.2.2 _ (by omega), o4 j j1 j2]
    obtain ⟨gT', gM', S, v1, v2, v3, v4⟩ := ih (i + 1) (sum + W) g2 (rsM n2 2070) (by omega) (by omega) (by omega) f2 m3
    refine ⟨gT', gM', S, v1, ?_, ?_, v4⟩
    · rw [e_T_mean_33]
      refine if_y (by omega) ?_
      refine cV_of (s1) ?_
      refine if_y (by omega) ?_
      refine cV_of (t1) ?_
      refine cI_of (wa) ?_
      refine if_y (by omega) ?_
      refine if_y (by omega) ?_
      exact v2
    · rw [e_M_mean_40]
      refine if_y (by omega) ?_
      refine if_y (by omega) ?_
      refine cV_of (t2) ?_
      refine cI_of (wm) ?_
      rw [if_pos (show inL (sum + W) by unfold inL; omega)]
      refine cV_of (m_restores (by omega)) ?_
      refine if_y (by omega) ?_
      exact v3
theorem up_rs {g : mM} {b : Nat} {i v : Int} {a : Nat} (ha : a ≠ 150) : upM (rs150 g h) b i v a = upM g b i v a := by
  funext j
  unfold upM
  rw [rs150_ne ha]
theorem q_mean (R : Rel h) (x y : Int) : QI xs d h 64 221 [mI x, mI y] := by
  obtain ⟨c, k⟩ := R.co
  obtain ⟨R1, R2, R3, R4, R5, R6, R7, R8, R9⟩ := id R
  have kT := k.1
  have kM := CoM.z.mp k.2.1
  have w := k.2.2.1
  have TI := k.2.2.2.2.2
  have t8 := TI.1
  have s8 : h 131 8 = if h 30 8 = 1 then h 30 6 else -1 := by
    have := TI.2.1
    dsimp only at this
    rwa [Int.zero_add] at this
  have r6 := TI.2.2.1
  by_cases q : 0 ≤ x ∧ x ≤ 9999
  rotate_left
  · refine QI.ans R 1 0 ?_ ?_
    · rw [c_T_mean]
      refine cI_of (t_within) ?_
      rw [if_pos (b2i_0.mpr q)]
      refine cI_of (c_deny 1) ?_
      refine if_y (by omega) ?_
      rfl
    · rw [c_M_mean]
      refine cI_of (m_isFrom) ?_
      rw [if_pos (b2i_0.mpr q)]
      refine cI_of (m_isNo (by omega)) ?_
      refine if_y (by omega) ?_
      rfl
  by_cases q2 : 1 ≤ y ∧ y ≤ 20
  rotate_left
  · refine QI.ans R 1 0 ?_ ?_
    · rw [c_T_mean]
      refine cI_of (t_within) ?_
      rw [if_neg (fun z => b2i_0.mp z q)]
      refine cI_of (t_within) ?_
      rw [if_pos (b2i_0.mpr q2)]
      refine cI_of (c_deny 1) ?_
      refine if_y (by omega) ?_
      rfl
    · rw [c_M_mean]
      refine cI_of (m_isFrom) ?_
      rw [if_neg (fun z => b2i_0.mp z q)]
      refine cI_of (m_isFrom) ?_
      rw [if_pos (b2i_0.mpr q2)]
      refine cI_of (m_isNo (by omega)) ?_
      refine if_y (by omega) ?_
      rfl
  by_cases q3 : 9999 < x + y - 1
  · refine QI.ans R 1 0 ?_ ?_
    · rw [c_T_mean]
      refine cI_of (t_within) ?_
      rw [if_neg (fun z => b2i_0.mp z q)]
      refine cI_of (t_within) ?_
      rw [if_neg (fun z => b2i_0.mp z q2)]
      refine if_y (by omega) ?_
      refine if_y (by omega) ?_
      refine if_y (by omega) ?_
      refine cI_of (c_deny 1) ?_
      refine if_y (by omega) ?_
      rfl
    · rw [c_M_mean]
      refine cI_of (m_isFrom) ?_
      rw [if_neg (fun z => b2i_0.mp z q)]
      refine cI_of (m_isFrom) ?_
      rw [if_neg (fun z => b2i_0.mp z q2)]
      refine if_y (by omega) ?_
      refine if_y (by omega) ?_
      refine if_y (by omega) ?_
      refine cI_of (m_isNo (by omega)) ?_
      refine if_y (by omega) ?_
      rfl
  by_cases th : h 30 8 = 0
  · refine QI.ans R 6 0 ?_ ?_
    · rw [c_T_mean]
      refine cI_of (t_within) ?_
      rw [if_neg (fun z => b2i_0.mp z q)]
      refine cI_of (t_within) ?_
      rw [if_neg (fun z => b2i_0.mp z q2)]
      refine if_y (by omega) ?_
      refine if_y (by omega) ?_
      refine if_n (by omega) ?_
      rw [if_pos th]
      refine cI_of (c_deny 6) ?_
      refine if_y (by omega) ?_
      rfl
    · rw [c_M_mean]
      refine cI_of (m_isFrom) ?_
      rw [if_neg (fun z => b2i_0.mp z q)]
      refine cI_of (m_isFrom) ?_
      rw [if_neg (fun z => b2i_0.mp z q2)]
      refine if_y (by omega) ?_
      refine if_y (by omega) ?_
      refine if_n (by omega) ?_
      rw [up_ne (by omega), (show h 131 8 = -1 by rw [s8, if_neg (by omega)]), if_pos rfl]
      refine cI_of (m_isNo (by omega)) ?_
      refine if_y (by omega) ?_
      rfl
  have th1 : h 30 8 = 1 := by omega
  rw [if_pos th1] at s8
  have sim := fun (m0 : mM) (e131 : m0 131 = h 131) (e150 : m0 150 = h 150) => mean_loop (xs := xs) (d := d) (c := c) R k th1 (m0 := m0) e131 (x := x) (y := y) q.1 q2 (by omega) y.toNat 0 0 h (kpM m0 2070) (by omega) (by omega) (by omega) Ow.rf ⟨fun a a1 a2 a3 a4 a5 => rowW_ne a2, fun j j1 j2 => by rw [kpM, rowW_ne (by omega)], fun j j1 j2 => rowW_out (by omega), fun j j1 j2 => by rw [kpM, rowW_in (by omega), show 2070 + j - 2070 = j by omega], fun j => by rw [kpM, rowW_ne (by omega), e150]; exact R9.2 j⟩
  have runT : ∀ r, X xs d k_T_mean 33 [mR 0, mI x, mI y, mI 0, mI 0] [] h = r → C xs d 64 0 [mR 0, mI x, mI y] h = r := fun r hr => by
    rw [c_T_mean]
    refine cI_of (t_within) ?_
    rw [if_neg (fun z => b2i_0.mp z q)]
    refine cI_of (t_within) ?_
    rw [if_neg (fun z => b2i_0.mp z q2)]
    refine if_y (by omega) ?_
    refine if_y (by omega) ?_
    refine if_n (by omega) ?_
    rw [if_neg th]
    exact hr
  obtain ⟨Y, hY⟩ : ∃ Y : Nat, y = (Y : Int) := ⟨y.toNat, by omega⟩
  have tellT : ∀ (gT' : mM) (S : Nat), (S : Int) ≤ 14000 → X xs d k_T_mean 33 [mR 0, mI x, mI y, mI 0, mI 0] [] h = cI (C xs d 71 0 [mR 0, mL (S : Int), mL y] gT') (fun v1 h1 => (if 0 ≤ v1 ∧ v1 ≤ 1 then some ([mI v1], h1) else none)) → C xs d 64 0 [mR 0, mI x, mI y] h = some ([mI 1], upM (upM (upM gT' 0 1 ((S / Nat.gcd Y S : Nat) : Int)) 0 2 ((Y / Nat.gcd Y S : Nat) : Int)) 0 0 0) := fun gT' S hS he => by
    refine runT _ ?_
    have lt90 : (14001 : Nat) < 2 ^ 90 := by decide
    rw [he, hY]
    refine cI_of (t_tell (by omega) (by omega)) ?_
    refine if_y (by omega) ?_
    rfl
  obtain ⟨gA, mA, SA, a1, a2, -, a4, -⟩ := sim h rfl rfl
  obtain ⟨NA, rfl⟩ : ∃ S : Nat, SA = (S : Int) := ⟨SA.toNat, by omega⟩
  have TA := tellT gA NA a1.2 a2
  generalize hH1 : upM (upM (upM gA 0 1 ((NA / Nat.gcd Y NA : Nat) : Int)) 0 2 ((Y / Nat.gcd Y NA : Nat) : Int)) 0 0 0 = H1 at TA
  have H1r : ∀ a, a ≠ 0 → meL.elem a = false → H1 a = h a := fun a z0 ha => by rw [← hH1, up_row z0, up_row z0, up_row z0, a4.at a ha]
  obtain ⟨gT, gM, S, b1, b2, b3, b4, b5⟩ := sim H1 (H1r 131 (by omega) rfl) (H1r 150 (by omega) rfl)
  obtain ⟨N, rfl⟩ : ∃ S' : Nat, S = (S' : Int) := ⟨S.toNat, by omega⟩
  have TB := tellT gT N b1.2 b2
  have hEq : H1 = upM (upM (upM gT 0 1 ((N / Nat.gcd Y N : Nat) : Int)) 0 2 ((Y / Nat.gcd Y N : Nat) : Int)) 0 0 0 := by
    rw [TA] at TB
    have := Option.some.inj TB
    injection this
  obtain ⟨c1, c2, c3, c4, c5⟩ := b5
  have kMg : CoM c gM := kM.of131 w.1.2 (fun j h1 h2 => by rw [c3 j h1 (by omega), H1r 131 (by omega) rfl])
  refine ⟨1, H1, upM (upM (upM gM 130 3 ((N / Nat.gcd Y N : Nat) : Int)) 130 4 ((Y / Nat.gcd Y N : Nat) : Int)) 130 2 0, TA, ?_, ?_⟩
  · rw [c_M_mean]
    refine cI_of (m_isFrom) ?_
    rw [if_neg (fun z => b2i_0.mp z q)]
    refine cI_of (m_isFrom) ?_
    rw [if_neg (fun z => b2i_0.mp z q2)]
    refine if_y (by omega) ?_
    refine if_y (by omega) ?_
    refine if_n (by omega) ?_
    rw [H1r 131 (by omega) rfl, s8, if_neg (by omega)]
    refine cV_of (m_keeps (by omega)) ?_
    rw [b3, hY]
    refine cI_of (m_tells (by omega)) ?_
    refine if_y (by omega) ?_
    rfl
  · have T := R.tellF k ((N / Nat.gcd Y N : Nat) : Int) ((Y / Nat.gcd Y N : Nat) : Int) (g1 := gT) (g2 := rs150 gM h) (kT.mv (fun a h1 h2 => b4 a (by simp; omega))) (Keep.ow b4 (by decide)) (kMg.mv (rs150_ne (by omega))) ?_ (fun a h1 h2 => ?_) ?_
    · refine Rel.u150 T (fun a ha => ?_) (fun j => by rw [up_ne (by omega), up_ne (by omega), up_ne (by omega)]; exact c5 j)
      funext j
      by_cases z : a = 130
      · subst z
        rw [up_at, up_at, up_at, up_at, up_at, up_at, rs150_ne (by omega)]
      · rw [up_row z, up_row z, up_row z, up_row z, up_row z, up_row z, rs150_ne ha]
    · rw [← hEq]
      refine ⟨fun a z => ?_, fun j hj => ?_, fun j hj => ?_, fun j hj => ?_⟩
      · by_cases y150 : a = 150
        · rw [y150, rs150_eq, H1r 150 (by omega) rfl]
        · rw [rs150_ne y150, c1 a (fun e => by subst e; exact absurd z (by decide)) (fun e => by subst e; exact absurd z (by decide)) (fun e => by subst e; exact absurd z (by decide)) y150 (fun e => by subst e; exact absurd z (by decide))]
      · rw [rs150_ne (by omega), c1 0 (by omega) (by omega) (by omega) (by omega) (by omega)]
      · rw [rs150_ne (by omega), c2 j (by omega) (by omega)]
      · rw [rs150_ne (by omega), c3 j (by omega) (by omega)]
    · rw [rs150_ne (by omega), c1 a (by omega) (by omega) (by omega) (by omega) (by omega), hEq, up_row (by omega), up_row (by omega), up_row (by omega)]
    · rw [← hEq, rs150_ne (by omega), c1 0 (by omega) (by omega) (by omega) (by omega) (by omega)]
end
