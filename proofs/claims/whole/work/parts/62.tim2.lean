/-! EQUIV 32: how whens, loops and ends lie in each other; what a step says -/
def NsI (n D : Int) (tw tq op : Int → Int) : Prop :=
  (∀ j, 0 ≤ j → j < D → (0 ≤ op j ∧ op j < n) ∧ opn (tw (op j)) ∧ tq (op j) = op j) ∧
  (∀ i j, 0 ≤ i → i < j → j < D → op i < op j) ∧
  (∀ r, 0 ≤ r → r < n → opn (tw r) → (∀ j, 0 ≤ j → j < D → op j ≠ r) → r < tq r ∧ tq r < n ∧ tw (tq r) = 22 ∧ tq (tq r) = r) ∧
  (∀ r, 0 ≤ r → r < n → tw r = 22 → 0 ≤ tq r ∧ tq r < r ∧ opn (tw (tq r)) ∧ tq (tq r) = r) ∧
  (∀ r o, 0 ≤ o → o < r → r < n → opn (tw o) → r < tq o → (opn (tw r) ∨ tw r = 22) → o < tq r ∧ tq r < tq o) ∧
  ∀ j o, 0 ≤ j → j < D → 0 ≤ o → o < op j → opn (tw o) → ¬ op j < tq o
section
variable {n D : Int} {tw tq op tw' tq' op' : Int → Int}
theorem NsI.lim (I : NsI n D tw tq op) {o : Int} (h0 : 0 ≤ o) (h1 : o < n) (h2 : opn (tw o)) : tq o < n := by
  obtain ⟨i1, i2, i3, i4, i5, i6⟩ := I
  by_cases z : ∀ j, 0 ≤ j → j < D → op j ≠ o
  · exact (i3 o h0 h1 h2 z).2.1
  · have : ∃ j, 0 ≤ j ∧ j < D ∧ op j = o := by
      refine Classical.byContradiction (fun y => z (fun j a b c => y ⟨j, a, b, c⟩))
    obtain ⟨j, a, b, c⟩ := this
    have := (i1 j a b).2.2
    rw [c] at this
    omega
theorem NsI.plain (I : NsI n D tw tq op) (hn : 0 ≤ n) (W : ∀ j, 0 ≤ j → j < n → tw' j = tw j) (Q : ∀ j, 0 ≤ j → j < n → tq' j = tq j) (O : ∀ j, 0 ≤ j → j < D → op' j = op j) (h1 : ¬ opn (tw' n)) (h2 : tw' n ≠ 22) : NsI (n + 1) D tw' tq' op' := by
  have L := fun o a b c => I.lim (o := o) a b c
  obtain ⟨i1, i2, i3, i4, i5, i6⟩ := I
  refine ⟨fun j a b => ?_, fun i j a b c => ?_, fun r a b c e => ?_, fun r a b c => ?_, fun r o a b c e f g => ?_, fun j o a b c e f => ?_⟩
  · obtain ⟨⟨u1, u2⟩, u3, u4⟩ := i1 j a b
    rw [O j a b, W _ u1 u2, Q _ u1 u2]
    exact ⟨⟨u1, by omega⟩, u3, u4⟩
  · rw [O i a (by omega), O j (by omega) c]
    exact i2 i j a b c
  · by_cases z : r = n
    · subst z; exact absurd c h1
    · rw [W r a (by omega)] at c
      obtain ⟨u1, u2, u3, u4⟩ := i3 r a (by omega) c (fun j x y => by rw [← O j x y]; exact e j x y)
      rw [Q r a (by omega), W (tq r) (by omega) u2, Q (tq r) (by omega) u2]
      exact ⟨u1, by omega, u3, u4⟩
  · by_cases z : r = n
    · subst z; exact absurd c h2
    · rw [W r a (by omega)] at c
      obtain ⟨u1, u2, u3, u4⟩ := i4 r a (by omega) c
      rw [Q r a (by omega), W (tq r) u1 (by omega), Q (tq r) u1 (by omega)]
      exact ⟨u1, u2, u3, u4⟩
  · rw [W o a (by omega)] at e
    rw [Q o a (by omega)] at f ⊢
    have := L o a (by omega) e
    by_cases z : r = n
    · omega
    · rw [W r (by omega) (by omega)] at g
      rw [Q r (by omega) (by omega)]
      exact i5 r o a b (by omega) e f g
  · obtain ⟨⟨u1, u2⟩, u3, u4⟩ := i1 j a b
    rw [O j a b] at e ⊢
    rw [W o c (by omega)] at f
    rw [Q o c (by omega)]
    exact i6 j o a b c e f
theorem NsI.push (I : NsI n D tw tq op) (hn : 0 ≤ n) (hD : 0 ≤ D) (W : ∀ j, 0 ≤ j → j < n → tw' j = tw j) (Q : ∀ j, 0 ≤ j → j < n → tq' j = tq j) (O : ∀ j, 0 ≤ j → j < D → op' j = op j) (h1 : opn (tw' n)) (h2 : tq' n = n) (h3 : op' D = n) : NsI (n + 1) (D + 1) tw' tq' op' := by
  have L := fun o a b c => I.lim (o := o) a b c
  obtain ⟨i1, i2, i3, i4, i5, i6⟩ := I
  refine ⟨fun j a b => ?_, fun i j a b c => ?_, fun r a b c e => ?_, fun r a b c => ?_, fun r o a b c e f g => ?_, fun j o a b c e f => ?_⟩
  · by_cases z : j = D
    · subst z
      rw [h3, h2]
      exact ⟨⟨hn, by omega⟩, h1, rfl⟩
    · obtain ⟨⟨u1, u2⟩, u3, u4⟩ := i1 j a (by omega)
      rw [O j a (by omega), W _ u1 u2, Q _ u1 u2]
      exact ⟨⟨u1, by omega⟩, u3, u4⟩
  · by_cases z : j = D
    · subst z
      have := (i1 i a b).1
      rw [h3, O i a b]
      omega
    · rw [O i a (by omega), O j (by omega) (by omega)]
      exact i2 i j a b (by omega)
  · by_cases z : r = n
    · subst z; exact absurd h3 (e D hD (by omega))
    · rw [W r a (by omega)] at c
      obtain ⟨u1, u2, u3, u4⟩ := i3 r a (by omega) c (fun j x y => by rw [← O j x y]; exact e j x (by omega))
      rw [Q r a (by omega), W (tq r) (by omega) u2, Q (tq r) (by omega) u2]
      exact ⟨u1, by omega, u3, u4⟩
  · by_cases z : r = n
    · subst z
      unfold opn at h1
      omega
    · rw [W r a (by omega)] at c
      obtain ⟨u1, u2, u3, u4⟩ := i4 r a (by omega) c
      rw [Q r a (by omega), W (tq r) u1 (by omega), Q (tq r) u1 (by omega)]
      exact ⟨u1, u2, u3, u4⟩
  · rw [W o a (by omega)] at e
    rw [Q o a (by omega)] at f ⊢
    have := L o a (by omega) e
    by_cases z : r = n
    · omega
    · rw [W r (by omega) (by omega)] at g
      rw [Q r (by omega) (by omega)]
      exact i5 r o a b (by omega) e f g
  · by_cases z : j = D
    · subst z
      rw [h3] at e ⊢
      rw [W o c e] at f
      rw [Q o c e]
      have := L o c e f
      omega
    · obtain ⟨⟨u1, u2⟩, u3, u4⟩ := i1 j a (by omega)
      rw [O j a (by omega)] at e ⊢
      rw [W o c (by omega)] at f
      rw [Q o c (by omega)]
      exact i6 j o a (by omega) c e f
theorem NsI.pop (I : NsI n D tw tq op) (hn : 0 ≤ n) (hD : 1 ≤ D) {b : Int} (hb : op (D - 1) = b) (W : ∀ j, 0 ≤ j → j < n → tw' j = tw j) (Q : ∀ j, 0 ≤ j → j < n → j ≠ b → tq' j = tq j) (O : ∀ j, 0 ≤ j → j < D - 1 → op' j = op j) (h1 : tw' n = 22) (h2 : tq' n = b) (h3 : tq' b = n) : NsI (n + 1) (D - 1) tw' tq' op' := by
  have L := fun o a b c => I.lim (o := o) a b c
  obtain ⟨i1, i2, i3, i4, i5, i6⟩ := I
  obtain ⟨⟨b1, b2⟩, b3, b4⟩ := i1 (D - 1) (by omega) (by omega)
  rw [hb] at b1 b2 b3 b4
  have top : ∀ j, 0 ≤ j → j < D → op j ≤ b := fun j x y => by
    by_cases z : j = D - 1
    · rw [z, hb]; omega
    · have := i2 j (D - 1) x (by omega) (by omega)
      rw [hb] at this
      omega
  have low : ∀ j, 0 ≤ j → j < D - 1 → op j < b := fun j x y => by
    have := i2 j (D - 1) x (by omega) (by omega)
    rwa [hb] at this
  have nb : tw b ≠ 22 := by unfold opn at b3; omega
  refine ⟨fun j a b => ?_, fun i j a b c => ?_, fun r a b c e => ?_, fun r a b c => ?_, fun r o a b c e f g => ?_, fun j o a b c e f => ?_⟩
  · obtain ⟨⟨u1, u2⟩, u3, u4⟩ := i1 j a (by omega)
    have := low j a b
    rw [O j a b, W _ u1 u2, Q _ u1 u2 (by omega)]
    exact ⟨⟨u1, by omega⟩, u3, u4⟩
  · rw [O i a (by omega), O j (by omega) c]
    exact i2 i j a b (by omega)
  · by_cases z : r = n
    · subst z
      unfold opn at c
      omega
    · by_cases y : r = op (D - 1)
      · rw [hb] at y
        subst y
        rw [h3, h2]
        exact ⟨by omega, by omega, h1, rfl⟩
      · rw [hb] at y
        rw [W r a (by omega)] at c
        obtain ⟨u1, u2, u3, u4⟩ := i3 r a (by omega) c (fun j x v w => by
          by_cases t : j = D - 1
          · rw [t, hb] at w; omega
          · exact e j x (by omega) (by rw [O j x (by omega)]; exact w))
        have ne : tq r ≠ op (D - 1) := fun t => by
          rw [hb] at t
          rw [t] at u3
          exact nb u3
        rw [hb] at ne
        rw [Q r a (by omega) y, W (tq r) (by omega) u2, Q (tq r) (by omega) u2 ne]
        exact ⟨u1, by omega, u3, u4⟩
  · by_cases z : r = n
    · subst z
      rw [h2, W _ b1 b2, h3]
      exact ⟨b1, b2, b3, rfl⟩
    · rw [W r a (by omega)] at c
      obtain ⟨u1, u2, u3, u4⟩ := i4 r a (by omega) c
      have y : r ≠ op (D - 1) := fun t => by rw [hb] at t; rw [t] at c; exact nb c
      rw [hb] at y
      have ne : tq r ≠ op (D - 1) := fun t => by
        rw [hb] at t
        rw [t, b4] at u4
        exact y u4.symm
      rw [hb] at ne
      rw [Q r a (by omega) y, W (tq r) u1 (by omega), Q (tq r) u1 (by omega) ne]
      exact ⟨u1, u2, u3, u4⟩
  · by_cases z : o = op (D - 1)
    · rw [hb] at z
      subst z
      rw [h3] at f ⊢
      rw [W r (by omega) f] at g
      rw [Q r (by omega) f (by omega)]
      rcases g with g | g
      · have := i3 r (by omega) f g (fun j x y t => by have := top j x y; omega)
        omega
      · obtain ⟨u1, u2, u3, u4⟩ := i4 r (by omega) f g
        rcases Int.lt_trichotomy (tq r) o with t | t | t
        · have := i6 (D - 1) (tq r) (by omega) (by omega) u1 (by rw [hb]; exact t) u3
          rw [hb, u4] at this
          omega
        · rw [t, b4] at u4
          omega
        · omega
    · rw [hb] at z
      rw [W o a (by omega)] at e
      rw [Q o a (by omega) z] at f ⊢
      have := L o a (by omega) e
      by_cases y : r = n
      · omega
      · by_cases x : r = op (D - 1)
        · have := i6 (D - 1) o (by omega) (by omega) a (by omega) e
          omega
        · rw [hb] at x
          rw [W r (by omega) (by omega)] at g
          rw [Q r (by omega) (by omega) x]
          exact i5 r o a b (by omega) e f g
  · obtain ⟨⟨u1, u2⟩, u3, u4⟩ := i1 j a (by omega)
    have := low j a b
    rw [O j a b] at e ⊢
    rw [W o c (by omega)] at f
    rw [Q o c (by omega) (by omega)]
    exact i6 j o a (by omega) c e f
theorem NsI.nst (I : NsI n 0 tw tq op) : Nst n tw tq := by
  obtain ⟨i1, i2, i3, i4, i5, i6⟩ := I
  intro r h1 h2
  refine ⟨fun z => i3 r h1 h2 z (fun j a b => by omega), fun z => i4 r h1 h2 z, fun o a b c e f => i5 r o a b h2 c e f⟩
end
section
variable {xs : List Int} {d : Nat} {hT hM : mM} {tx : Nat → Int} {N : Nat} {gT gM : mM} {k : Tk} {f e : Nat} {n : Nat}
noncomputable def semT (xs : List Int) (d : Nat) (h : mM) : Option (List mv × mM) := cI (C xs d 307 0 [mR 9] h) (fun v2 h2 => (if v2 = (0 : Int) then some ([mI 0], h2) else some ([mI 1], h2)))
noncomputable def swT (xs : List Int) (d : Nat) (x2 x4 : Int) (h1 : mM) : Option (List mv × mM) :=
  if x2 = 14 then cI (C xs d 329 0 [mR 47, mI x4, mR 12] h1) (fun v15 h15 => (if v15 = (0 : Int) then some ([mI 0], h15) else semT xs d h15))
  else if x2 = 15 then cI (C xs d 331 0 [mR 47, mI x4, mI 1, mI 20] h1) (fun v13 h13 => (if v13 = (0 : Int) then some ([mI 0], h13) else semT xs d h13))
  else if x2 = 16 then semT xs d h1
  else if x2 = 17 then cI (C xs d 329 0 [mR 47, mI x4, mR 12] h1) (fun v9 h9 => (if v9 = (0 : Int) then some ([mI 0], h9) else cI (C xs d 331 0 [mR 47, mI x4, mI 0, mI 9] h9) (fun v10 h10 => (if v10 = (0 : Int) then some ([mI 0], h10) else semT xs d h10))))
  else if x2 = 18 then semT xs d h1
  else if x2 = 19 then cI (C xs d 328 0 [mR 47, mI x4, mR 12] h1) (fun v6 h6 => (if v6 = (0 : Int) then some ([mI 0], h6) else semT xs d h6))
  else if x2 = 20 then semT xs d h1
  else if x2 = 21 then cI (C xs d 331 0 [mR 47, mI x4, mI 1, mI 99] h1) (fun v3 h3 => (if v3 = (0 : Int) then some ([mI 0], h3) else semT xs d h3))
  else semT xs d h1
theorem e_71 (x2 x3 x4 : Int) (h : mM) : X xs d k_TR_readStep 71 [mR 47, mR 12, mI x2, mI x3, mI x4, mC 0] [] h = cV (C xs d 310 0 [mR 9] h) (fun h1 => swT xs d x2 x4 h1) := e_TR_readStep_71 xs d x2 x3 x4 h
theorem p_args (S : RdS hT hM tx N k f e gT gM) (P : PeR n hT hM) {i r t m : Int} (hi : 0 ≤ i ∧ i < 60) (hr : 1656 ≤ r ∧ r + 5 < 2346) (ht : 14 ≤ t ∧ t ≤ 23 ∧ t ≠ 20 ∧ t ≠ 22) (hm : WdR t m) (m0 : gM 131 r = m) : (∃ gT' gM' k' f' e', swT xs d t i gT = semT xs d gT' ∧ C xs d 123 0 [mR 130, mI m, mI r] gM = some ([mI 1], gM') ∧ RdS hT hM tx N k' f' e' gT' gM' ∧ f ≤ f' ∧ RoA n t i r gT' gM' ∧ TrF i gT gT' ∧ MrF r gM gM') ∨ ∃ gT' gM', swT xs d t i gT = some ([mI 0], gT') ∧ C xs d 123 0 [mR 130, mI m, mI r] gM = some ([mI 0], gM') ∧ Flt hT hM gT' gM' := by
  unfold WdR at hm
  unfold swT
  rw [c_M_timeOrder]
  have : t = 14 ∨ t = 15 ∨ t = 16 ∨ t = 17 ∨ t = 18 ∨ t = 19 ∨ t = 21 ∨ t = 23 := by omega
  rcases this with rfl | rfl | rfl | rfl | rfl | rfl | rfl | rfl
  · obtain rfl : m = 13 := by omega
    rw [if_pos rfl, if_pos rfl, if_pos (show inI (r + 1) by unfold inI; omega)]
    rcases p_whoTo (xs := xs) (d := d) S P (i := i) (a := r + 1) hi (by omega) with ⟨g2, n2, k2, f2, e2, s1, s2, S2, s4, p, hp, s5, s6⟩ | ⟨g2, n2, s1, s2, s3⟩
    · refine Or.inl ⟨g2, n2, k2, f2, e2, ?_, ?_, S2, s4, ?_, TrF.of (by omega) s5, MrF.of (by omega) s6⟩
      · refine cI_of (s1) ?_
        rw [if_neg (by decide)]
      · refine cI_of (s2) ?_
        rfl
      · unfold RoA StA
        rw [s5.1 50 (by omega), up_eq, s6.1 131 (by omega), up_at, if_neg (by omega), m0, up_at, if_pos rfl]
        exact Or.inl ⟨rfl, rfl, rfl, by omega, by omega⟩
    · refine Or.inr ⟨g2, n2, ?_, ?_, s3⟩
      · refine cI_of (s1) ?_
        rfl
      · refine cI_of (s2) ?_
        rfl
  · obtain rfl : m = 14 := by omega
    rw [if_neg (by decide), if_pos rfl, if_neg (by decide), if_pos rfl, if_pos (show inI (r + 1) by unfold inI; omega)]
    rcases p_amount (xs := xs) (d := d) S (i := i) (a := r + 1) (l := 1) (m := 20) hi (by omega) with ⟨g2, n2, k2, f2, e2, s1, s2, S2, s4, v, hv, s5, s6⟩ | ⟨g2, n2, s1, s2, s3⟩
    · refine Or.inl ⟨g2, n2, k2, f2, e2, ?_, ?_, S2, s4, ?_, TrF.of (by omega) s5, MrF.of (by omega) s6⟩
      · refine cI_of (s1) ?_
        rw [if_neg (by decide)]
      · refine cI_of (s2) ?_
        rfl
      · unfold RoA StA
        rw [s5.1 53 (by omega), up_eq, s6.1 131 (by omega), up_at, if_neg (by omega), m0, up_at, if_pos rfl]
        exact Or.inr (Or.inl ⟨rfl, rfl, rfl, hv.1, hv.2⟩)
    · refine Or.inr ⟨g2, n2, ?_, ?_, s3⟩
      · refine cI_of (s1) ?_
        rfl
      · refine cI_of (s2) ?_
        rfl
  · obtain rfl : m = 15 := by omega
    rw [if_neg (by decide), if_neg (by decide), if_pos rfl, if_neg (by decide), if_neg (by decide), if_pos rfl]
    refine Or.inl ⟨gT, gM, k, f, e, rfl, rfl, S, Nat.le_refl _, ?_, TrF.rf, MrF.rf⟩
    unfold RoA StA
    rw [m0]
    exact Or.inr (Or.inr (Or.inl ⟨rfl, rfl⟩))
  · obtain rfl : m = 16 := by omega
    rw [if_neg (by decide), if_neg (by decide), if_neg (by decide), if_pos rfl, if_neg (by decide), if_neg (by decide), if_neg (by decide), if_pos rfl, if_pos (show inI (r + 1) by unfold inI; omega)]
    rcases p_whoTo (xs := xs) (d := d) S P (i := i) (a := r + 1) hi (by omega) with ⟨g2, n2, k2, f2, e2, s1, s2, S2, s4, p, hp, s5, s6⟩ | ⟨g2, n2, s1, s2, s3⟩
    · rcases p_amount (xs := xs) (d := d) S2 (i := i) (a := r + 2) (l := 0) (m := 9) hi (by omega) with ⟨g3, n3, k3, f3, e3, u1, u2, S3, u4, v, hv, u5, u6⟩ | ⟨g3, n3, u1, u2, u3⟩
      · refine Or.inl ⟨g3, n3, k3, f3, e3, ?_, ?_, S3, by omega, ?_, (TrF.of (by omega) s5).tr (TrF.of (by omega) u5), (MrF.of (by omega) s6).tr (MrF.of (by omega) u6)⟩
        · refine cI_of (s1) ?_
          rw [if_neg (by decide)]
          refine cI_of (u1) ?_
          rw [if_neg (by decide)]
        · refine cI_of (s2) ?_
          rw [if_neg (by decide), if_pos (show inI (r + 2) by unfold inI; omega)]
          refine cI_of (u2) ?_
          rfl
        · unfold RoA StA
          rw [u5.1 50 (by omega), up_ne (by omega), s5.1 50 (by omega), up_eq, u5.1 53 (by omega), up_eq]
          have a0 : n3 131 r = 16 := by rw [u6.1 131 (by omega), up_at, if_neg (by omega), s6.1 131 (by omega), up_at, if_neg (by omega), m0]
          have a1 : n3 131 (r + 1) = (p : Int) := by rw [u6.1 131 (by omega), up_at, if_neg (by omega), s6.1 131 (by omega), up_eq]
          have a2 : n3 131 (r + 2) = v := by rw [u6.1 131 (by omega), up_eq]
          rw [a0, a1, a2]
          exact Or.inr (Or.inr (Or.inr (Or.inl ⟨rfl, rfl, rfl, by omega, by omega, rfl, hv.1, hv.2⟩)))
      · refine Or.inr ⟨g3, n3, ?_, ?_, u3⟩
        · refine cI_of (s1) ?_
          rw [if_neg (by decide)]
          refine cI_of (u1) ?_
          rfl
        · refine cI_of (s2) ?_
          rw [if_neg (by decide), if_pos (show inI (r + 2) by unfold inI; omega)]
          refine cI_of (u2) ?_
          rfl
    · refine Or.inr ⟨g2, n2, ?_, ?_, s3⟩
      · refine cI_of (s1) ?_
        rfl
      · refine cI_of (s2) ?_
        rfl
  · obtain rfl : m = 17 := by omega
    rw [if_neg (by decide), if_neg (by decide), if_neg (by decide), if_neg (by decide), if_pos rfl, if_neg (by decide), if_neg (by decide), if_neg (by decide), if_neg (by decide), if_pos rfl]
    refine Or.inl ⟨gT, gM, k, f, e, rfl, rfl, S, Nat.le_refl _, ?_, TrF.rf, MrF.rf⟩
    unfold RoA StA
    rw [m0]
    exact Or.inr (Or.inr (Or.inr (Or.inr (Or.inl ⟨rfl, rfl⟩))))
  · obtain rfl : m = 18 := by omega
    rw [if_neg (by decide), if_neg (by decide), if_neg (by decide), if_neg (by decide), if_neg (by decide), if_pos rfl, if_neg (by decide), if_neg (by decide), if_neg (by decide), if_neg (by decide), if_neg (by decide), if_pos rfl]
    rcases p_test (xs := xs) (d := d) S P (i := i) (r := r) hi hr with ⟨g2, n2, k2, f2, e2, s1, s2, S2, s4, s5, s6, s7⟩ | ⟨g2, n2, s1, s2, s3⟩
    · refine Or.inl ⟨g2, n2, k2, f2, e2, ?_, ?_, S2, s4, s5, s6, s7⟩
      · refine cI_of (s1) ?_
        rw [if_neg (by decide)]
      · refine cI_of (s2) ?_
        rfl
    · refine Or.inr ⟨g2, n2, ?_, ?_, s3⟩
      · refine cI_of (s1) ?_
        rfl
      · refine cI_of (s2) ?_
        rfl
  · obtain rfl : m = 19 := by omega
    rw [if_neg (by decide), if_neg (by decide), if_neg (by decide), if_neg (by decide), if_neg (by decide), if_neg (by decide), if_neg (by decide), if_pos rfl, if_neg (by decide), if_neg (by decide), if_neg (by decide), if_neg (by decide), if_neg (by decide), if_neg (by decide), if_pos rfl, if_pos (show inI (r + 1) by unfold inI; omega)]
    rcases p_amount (xs := xs) (d := d) S (i := i) (a := r + 1) (l := 1) (m := 99) hi (by omega) with ⟨g2, n2, k2, f2, e2, s1, s2, S2, s4, v, hv, s5, s6⟩ | ⟨g2, n2, s1, s2, s3⟩
    · refine Or.inl ⟨g2, n2, k2, f2, e2, ?_, ?_, S2, s4, ?_, TrF.of (by omega) s5, MrF.of (by omega) s6⟩
      · refine cI_of (s1) ?_
        rw [if_neg (by decide)]
      · refine cI_of (s2) ?_
        rfl
      · unfold RoA StA
        rw [s5.1 53 (by omega), up_eq, s6.1 131 (by omega), up_at, if_neg (by omega), m0, up_at, if_pos rfl]
        exact Or.inr (Or.inr (Or.inr (Or.inr (Or.inr (Or.inr (Or.inl ⟨rfl, rfl, rfl, hv.1, hv.2⟩))))))
    · refine Or.inr ⟨g2, n2, ?_, ?_, s3⟩
      · refine cI_of (s1) ?_
        rfl
      · refine cI_of (s2) ?_
        rfl
  · obtain rfl : m = 21 := by omega
    rw [if_neg (by decide), if_neg (by decide), if_neg (by decide), if_neg (by decide), if_neg (by decide), if_neg (by decide), if_neg (by decide), if_neg (by decide), if_neg (by decide), if_neg (by decide), if_neg (by decide), if_neg (by decide), if_neg (by decide), if_neg (by decide), if_neg (by decide)]
    refine Or.inl ⟨gT, gM, k, f, e, rfl, rfl, S, Nat.le_refl _, ?_, TrF.rf, MrF.rf⟩
    unfold RoA StA
    rw [m0]
    exact Or.inr (Or.inr (Or.inr (Or.inr (Or.inr (Or.inr (Or.inr ⟨rfl, rfl⟩))))))
end
