/-! EQUIV 13: fractions; laws; tests -/
section
variable {xs : List Int} {d : Nat} {h : mM}
theorem gcd_step (a b : Nat) : Nat.gcd a b = Nat.gcd b (a % b) := by rw [Nat.gcd_comm a b, Nat.gcd_rec b a, Nat.gcd_comm]
theorem two_rounds {a b : Nat} (hb : 0 < b) (hr : a % b ≠ 0) : 2 * (b % (a % b)) < b := by
  have h1 := Nat.mod_lt a hb
  have h2 := Nat.mod_lt b (show 0 < a % b by omega)
  have h3 := Nat.div_add_mod b (a % b)
  have h4 : 1 ≤ b / (a % b) := (Nat.le_div_iff_mul_le (by omega)).mpr (by omega)
  have h5 : a % b * 1 ≤ a % b * (b / (a % b)) := Nat.mul_le_mul_left _ h4
  omega
theorem modN (a b : Nat) : ((a : Nat) : Int) % ((b : Nat) : Int) = ((a % b : Nat) : Int) := rfl
theorem t_gcdLoop (x0 x2 : Int) : ∀ (f a b i : Nat) (x9 : mv), b < 2 ^ f → i + 2 * f ≤ 200 → X xs d k_T_commonDivisor 6 [mL x0, mC 0, mL x2, mC 0, mL (a : Int), mC 0, mL (b : Int), mC 0, mI (i : Int), x9, mC 0] [] h = some ([mL ((Nat.gcd a b : Nat) : Int)], h) := by
  intro f
  induction f with
  | zero =>
    intro a b i x9 hb hi
    obtain rfl : b = 0 := by omega
    rw [e_T_commonDivisor_6, Nat.gcd_zero_right]
    by_cases q : (i : Int) < 200
    · rw [if_pos q]
      refine if_y (by omega) ?_
      rfl
    · rw [if_neg q]
  | succ f ih =>
    intro a b i x9 hb hi
    rw [e_T_commonDivisor_6]
    refine if_y (by omega) ?_
    by_cases q : b = 0
    · subst q
      rw [Nat.gcd_zero_right]
      refine if_y (by omega) ?_
      rfl
    · refine if_n (by omega) ?_
      refine if_y (by omega) ?_
      refine if_y (by omega) ?_
      rw [modN, gcd_step a b, e_T_commonDivisor_6]
      refine if_y (by omega) ?_
      by_cases q2 : a % b = 0
      · rw [q2, Nat.gcd_zero_right]
        refine if_y (by omega) ?_
        rfl
      · refine if_n (by omega) ?_
        refine if_y (by omega) ?_
        refine if_y (by omega) ?_
        have t := two_rounds (a := a) (b := b) (by omega) q2
        rw [modN, gcd_step b (a % b)]
        rw [Nat.pow_succ] at hb
        have := ih (a % b) (b % (a % b)) (i + 2) (mL ((b % (a % b) : Nat) : Int)) (by omega) (by omega)
        rw [show ((i + 2 : Nat) : Int) = (i : Int) + 1 + 1 by omega] at this
        exact this
theorem t_gcd {p w : Nat} (hp : p < 2 ^ 90) : C xs d 72 0 [mL (p : Int), mL (w : Int)] h = some ([mL ((Nat.gcd w p : Nat) : Int)], h) := by
  rw [c_T_commonDivisor]
  exact t_gcdLoop _ _ 90 w p 0 (mC 0) hp (by omega)
theorem t_tell {p w : Nat} (hp : p < 2 ^ 90) (hw : 1 ≤ w) : C xs d 71 0 [mR 0, mL (p : Int), mL (w : Int)] h = some ([mI 1], upM (upM (upM h 0 1 ((p / Nat.gcd w p : Nat) : Int)) 0 2 ((w / Nat.gcd w p : Nat) : Int)) 0 0 0) := by
  have g1 : 1 ≤ Nat.gcd w p := Nat.gcd_pos_of_pos_left _ hw
  rw [c_T_tell]
  refine cL_of (t_gcd hp) ?_
  rw [show max 1 ((Nat.gcd w p : Nat) : Int) = ((Nat.gcd w p : Nat) : Int) by omega]
  refine if_y (by omega) ?_
  refine if_y (by omega) ?_
  refine cI_of (c_T_grant xs d _) ?_
  refine if_y (by omega) ?_
  rfl
theorem m_tellLoop {p w g : Nat} (hg : 1 ≤ g) : ∀ (m b a : Nat) (x9 : mv), b ≤ m → Nat.gcd a b = g → X xs d k_M_tellsBy 4 [mR 130, mL (p : Int), mC 0, mL (w : Int), mC 0, mL (a : Int), mC 0, mL (b : Int), mC 0, x9, mC 0] [] h = some ([mI 1], upM (upM (upM h 130 3 ((p / g : Nat) : Int)) 130 4 ((w / g : Nat) : Int)) 130 2 0) := by
  have fin : ∀ x9, X xs d k_M_tellsBy 4 [mR 130, mL (p : Int), mC 0, mL (w : Int), mC 0, mL (g : Int), mC 0, mL 0, mC 0, x9, mC 0] [] h = some ([mI 1], upM (upM (upM h 130 3 ((p / g : Nat) : Int)) 130 4 ((w / g : Nat) : Int)) 130 2 0) := fun x9 => by
    rw [e_M_tellsBy_4]
    refine if_y (by omega) ?_
    refine if_y (by omega) ?_
    refine if_y (by omega) ?_
    refine cI_of (m_isYes) ?_
    refine if_y (by omega) ?_
    rfl
  intro m
  induction m with
  | zero =>
    intro b a x9 hb hgc
    obtain rfl : b = 0 := by omega
    rw [Nat.gcd_zero_right] at hgc
    subst hgc
    exact fin x9
  | succ m ih =>
    intro b a x9 hb hgc
    by_cases q : b = 0
    · subst q
      rw [Nat.gcd_zero_right] at hgc
      subst hgc
      exact fin x9
    · have := Nat.mod_lt a (show 0 < b by omega)
      rw [e_M_tellsBy_4]
      refine if_n (by omega) ?_
      refine if_y (by omega) ?_
      rw [modN]
      exact ih (a % b) b (mL ((a % b : Nat) : Int)) (by omega) (by rw [← gcd_step, hgc])
theorem m_tells {p w : Nat} (hw : 1 ≤ w) : C xs d 84 0 [mR 130, mL (p : Int), mL (w : Int)] h = some ([mI 1], upM (upM (upM h 130 3 ((p / Nat.gcd w p : Nat) : Int)) 130 4 ((w / Nat.gcd w p : Nat) : Int)) 130 2 0) := by
  have g1 : 1 ≤ Nat.gcd w p := Nat.gcd_pos_of_pos_left _ hw
  rw [c_M_tellsBy]
  exact m_tellLoop g1 w w p (mC 0) (Nat.le_refl _) (Nat.gcd_comm _ _)
/-- a fraction is told -/
theorem Rel.tell {h' : mM} (R : Rel h) (e : ∀ a, a ≠ 0 → a ≠ 130 → h' a = h a) (e0 : ∀ k, k ≠ 1 → k ≠ 2 → h' 0 k = h 0 k) (e1 : ∀ k, k ≠ 3 → k ≠ 4 → h' 130 k = h 130 k) (hf : h' 0 1 = h' 130 3 ∧ h' 0 2 = h' 130 4) : Rel h' := by
  refine R.loc (fun a z => e a (by have := kN z; omega) (by have := kN z; omega)) (fun k _ _ => by rw [e 131 (by omega) (by omega)]) ?_ hf ?_ ?_ ?_ (e0 3 (by omega) (by omega)) (e1 44 (by omega) (by omega)) (e1 45 (by omega) (by omega))
  · rw [e0 0 (by omega) (by omega), e1 2 (by omega) (by omega)]
    exact R.1
  · intro t ht
    rw [e 7 (by omega) (by omega), e 8 (by omega) (by omega), e 133 (by omega) (by omega), e 134 (by omega) (by omega), e 135 (by omega) (by omega), e (3 + t) (by omega) (by omega)]
    exact R.tp t ht
  · rw [e 9 (by omega) (by omega), e 10 (by omega) (by omega), e 136 (by omega) (by omega), e1 10 (by omega) (by omega)]
    exact R.2.2.2.1
  · rw [e 9 (by omega) (by omega), e1 16 (by omega) (by omega), e1 17 (by omega) (by omega)]
    exact R.2.2.2.2.1
theorem QI.mkTell {c : Kc} {iT iM : Nat} {a : List mv} (R : Rel h) (k0 : SlotR 12 30 c h 0 0) (v t b : Int) {g1 g2 : mM} (hT : C xs d iT 0 (mR 0 :: a) h = some ([mI v], upM (upM (upM g1 0 1 t) 0 2 b) 0 0 0)) (k1 : CoT 12 c g1) (o1 : Keep h g1) (hM : C xs d iM 0 (mR 130 :: a) (upM (upM (upM g1 0 1 t) 0 2 b) 0 0 0) = some ([mI v], upM (upM (upM g2 130 3 t) 130 4 b) 130 2 0)) (k2 : CoM c g2) (o2 : Keep (upM (upM (upM g1 0 1 t) 0 2 b) 0 0 0) g2) (o3 : ∀ a, 12 ≤ a → a ≤ 18 → g2 a = g1 a) (o4 : g2 0 = upM (upM (upM g1 0 1 t) 0 2 b) 0 0 0 0) : QI xs d h iT iM a := by
  refine ⟨v, _, _, hT, hM, ?_⟩
  generalize hF : upM (upM (upM g2 130 3 t) 130 4 b) 130 2 0 = F
  have f130 : ∀ k, k ≠ 2 → k ≠ 3 → k ≠ 4 → F 130 k = g2 130 k := fun k z1 z2 z3 => by rw [← hF, up_at, if_neg z1, up_at, if_neg z3, up_at, if_neg z2]
  have f0 : ∀ k, k ≠ 1 → k ≠ 2 → k ≠ 0 → F 0 k = h 0 k := fun k z1 z2 z3 => by
    rw [← hF, up_row (by omega), up_row (by omega), up_row (by omega), o4, up_at, if_neg z3, up_at, if_neg z2, up_at, if_neg z1, o1.2.1 k z3]
  have fr : ∀ a, a ≠ 130 → F a = g2 a := fun a z => by rw [← hF, up_row z, up_row z, up_row z]
  have f00 : F 0 0 = 0 := by rw [fr 0 (by omega), o4, up_eq]
  have f132 : F 130 2 = 0 := by rw [← hF, up_eq]
  have f01 : F 0 1 = t := by rw [fr 0 (by omega), o4, up_at, if_neg (by omega), up_at, if_neg (by omega), up_eq]
  have f02 : F 0 2 = b := by rw [fr 0 (by omega), o4, up_at, if_neg (by omega), up_eq]
  have f3 : F 130 3 = t := by rw [← hF, up_at, if_neg (by omega), up_at, if_neg (by omega), up_eq]
  have f4 : F 130 4 = b := by rw [← hF, up_at, if_neg (by omega), up_eq]
  have hk : ∀ a, keptL.elem a = true → F a = h a := fun a z => by
    have n0 : a ≠ 0 := fun e => by subst e; exact absurd z (by decide)
    have n1 : a ≠ 130 := fun e => by subst e; exact absurd z (by decide)
    rw [fr a n1, o2.1 a z, up_row n0, up_row n0, up_row n0, o1.1 a z]
  generalize hH : upM (upM (upM (upM F 0 1 (h 0 1)) 0 2 (h 0 2)) 130 3 (h 130 3)) 130 4 (h 130 4) = H
  have hr : ∀ a, a ≠ 0 → a ≠ 130 → H a = F a := fun a z1 z2 => by rw [← hH, up_row z2, up_row z2, up_row z1, up_row z1]
  have h0 : ∀ k, k ≠ 1 → k ≠ 2 → H 0 k = F 0 k := fun k z1 z2 => by rw [← hH, up_row (by omega), up_row (by omega), up_at, if_neg z2, up_at, if_neg z1]
  have h1 : ∀ k, k ≠ 3 → k ≠ 4 → H 130 k = F 130 k := fun k z1 z2 => by rw [← hH, up_at, if_neg z2, up_at, if_neg z1, up_row (by omega), up_row (by omega)]
  have h01 : H 0 1 = h 0 1 := by rw [← hH, up_row (by omega), up_row (by omega), up_at, if_neg (by omega), up_eq]
  have h02 : H 0 2 = h 0 2 := by rw [← hH, up_row (by omega), up_row (by omega), up_eq]
  have h3 : H 130 3 = h 130 3 := by rw [← hH, up_at, if_neg (by omega), up_eq]
  have h4 : H 130 4 = h 130 4 := by rw [← hH, up_eq]
  have RH : Rel H := by
    refine R.upd k0 (c' := c) (k1.mv (fun a z1 z2 => ?_)) (k2.mv ?_) k0.2.2.1 k0.2.2.2.1 rfl ⟨fun a z => ?_, fun k z => ?_, fun k z => ?_, fun k z => ?_⟩ ?_
    · rw [hr a (by omega) (by omega), fr a (by omega), o3 a z1 (by omega)]
    · rw [hr 131 (by omega) (by omega), fr 131 (by omega)]
    · have n0 : a ≠ 0 := fun e => by subst e; exact absurd z (by decide)
      have n1 : a ≠ 130 := fun e => by subst e; exact absurd z (by decide)
      rw [hr a n0 n1, hk a z]
    · by_cases e1 : k = 1
      · subst e1; exact h01
      by_cases e2 : k = 2
      · subst e2; exact h02
      rw [h0 k e1 e2, f0 k e1 e2 z]
    · by_cases e1 : k = 3
      · subst e1; exact h3
      by_cases e2 : k = 4
      · subst e2; exact h4
      rw [h1 k e1 e2, f130 k (by omega) e1 e2, o2.2.2.1 k z, up_row (by omega), up_row (by omega), up_row (by omega), o1.2.2.1 k z]
    · rw [hr 131 (by omega) (by omega), fr 131 (by omega), o2.2.2.2 k z, up_row (by omega), up_row (by omega), up_row (by omega), o1.2.2.2 k z]
    · rw [h0 0 (by omega) (by omega), h1 2 (by omega) (by omega), f00, f132]
  exact RH.tell (fun a z1 z2 => (hr a z1 z2).symm) (fun k z1 z2 => (h0 k z1 z2).symm) (fun k z1 z2 => (h1 k z1 z2).symm) ⟨by rw [f01, f3], by rw [f02, f4]⟩
theorem CoT.z3 {c : Kc} {b : Nat} (hb : 1 ≤ b) (k : CoT b c h) (p q s : Int) : CoT b c (upM (upM (upM h 0 1 p) 0 2 q) 0 0 s) := k.mv (fun a h1 h2 => by rw [up_row (by omega), up_row (by omega), up_row (by omega)])
theorem CoM.z3 {c : Kc} (k : CoM c h) (p q s : Int) : CoM c (upM (upM (upM h 0 1 p) 0 2 q) 0 0 s) := k.mv (by rw [up_row (by omega), up_row (by omega), up_row (by omega)])
theorem q_share (R : Rel h) (x : Int) : QI xs d h 60 208 [mI x] := by
  obtain ⟨c, k⟩ := R.co
  have kT := k.1
  have kM := CoM.z.mp k.2.1
  have w := k.2.2.1
  have hn := w.1
  by_cases q : 0 ≤ x ∧ x < c 0 0
  rotate_left
  · refine QI.ans R 1 0 ?_ ?_
    · rw [c_T_share]
      refine cI_of (t_has12 kT x) ?_
      rw [if_pos (b2i_0.mpr q)]
      refine cI_of (c_T_deny xs d _ h) ?_
      refine if_y (by omega) ?_
      rfl
    · rw [c_M_share]
      refine cI_of (m_isPerson (kM.z0 1) x) ?_
      rw [if_pos (b2i_0.mpr q)]
      refine cI_of (m_isNo (by omega)) ?_
      refine if_y (by omega) ?_
      rfl
  have sb := wsum_bd w (i := (c 0 0).toNat) (by omega)
  have tg : ∀ g, CoM c g → C xs d 138 0 [mR 130, mI 2] g = some ([mI (sumN (fun p => c 5 (p : Int)) (c 0 0).toNat)], g) := fun g kg => m_together kg w (Or.inl ⟨rfl, rfl⟩)
  generalize hs : sumN (fun p => c 5 (p : Int)) (c 0 0).toNat = S at sb tg
  by_cases q2 : S = 0
  · refine QI.ans R 6 0 ?_ ?_
    · rw [c_T_share]
      refine cI_of (t_has12 kT x) ?_
      rw [if_neg (fun z => b2i_0.mp z q)]
      refine cI_of (t_allWarmth (by omega) kT w) ?_
      rw [hs]
      refine if_y (q2) ?_
      refine cI_of (c_T_deny xs d _ h) ?_
      refine if_y (by omega) ?_
      rfl
    · rw [c_M_share]
      refine cI_of (m_isPerson (kM.z0 6) x) ?_
      rw [if_neg (fun z => b2i_0.mp z q)]
      refine cI_of (tg _ (kM.z0 6)) ?_
      refine if_y (q2) ?_
      refine cI_of (m_isNo (by omega)) ?_
      refine if_y (by omega) ?_
      rfl
  have bw := (w.2.2.2.2.2.2.2.2 x q.1 q.2).2.2.1
  obtain ⟨W, hW⟩ : ∃ W : Nat, S = (W : Int) := ⟨S.toNat, by omega⟩
  obtain ⟨P, hP⟩ : ∃ P : Nat, c 5 x = (P : Int) := ⟨(c 5 x).toNat, by omega⟩
  have kM3 := kM.z3 ((P / Nat.gcd W P : Nat) : Int) ((W / Nat.gcd W P : Nat) : Int) 0
  refine QI.mkTell R k 1 ((P / Nat.gcd W P : Nat) : Int) ((W / Nat.gcd W P : Nat) : Int) (g1 := h) (g2 := upM (upM (upM h 0 1 ((P / Nat.gcd W P : Nat) : Int)) 0 2 ((W / Nat.gcd W P : Nat) : Int)) 0 0 0) ?_ kT Keep.rf ?_ kM3 Keep.rf (fun a z1 z2 => by rw [up_row (by omega), up_row (by omega), up_row (by omega)]) rfl
  · rw [c_T_share]
    refine cI_of (t_has12 kT x) ?_
    rw [if_neg (fun z => b2i_0.mp z q)]
    refine cI_of (t_allWarmth (by omega) kT w) ?_
    rw [hs]
    refine if_n (q2) ?_
    refine if_y (by omega) ?_
    rw [show h 16 x = c 5 x from kT.w _ q.1 q.2, hW, hP]
    refine cI_of (t_tell (by omega) (by omega)) ?_
    refine if_y (by omega) ?_
    rfl
  · rw [c_M_share]
    refine cI_of (m_isPerson kM3 x) ?_
    rw [if_neg (fun z => b2i_0.mp z q)]
    refine cI_of (tg _ kM3) ?_
    refine if_n (q2) ?_
    refine cI_of (m_personOf (by omega) (by omega)) ?_
    rw [kM3.w _ q.1 q.2]
    refine cI_of (tg _ kM3) ?_
    rw [hW, hP]
    refine cI_of (m_tells (by omega)) ?_
    refine if_y (by omega) ?_
    rfl
end
