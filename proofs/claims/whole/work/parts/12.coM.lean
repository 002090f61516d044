/-! EQUIV 2: companies, the reference's own -/
theorem and_small : ∀ x, x < 128 → ∀ y, y < 128 → fAnd ((x : Nat) : Int) ((y : Nat) : Int) = ((x &&& y : Nat) : Int) := by decide +kernel
theorem not_small : ∀ b, b < 7 → ∀ x, x < 128 → fAnd ((x : Nat) : Int) (fXor (fShl 1 ((b : Nat) : Int)) (-1)) = ((x &&& (127 - 2 ^ b) : Nat) : Int) := by decide +kernel
theorem not_bit : ∀ b, b < 7 → ∀ i, i < 7 → (127 - 2 ^ b).testBit i = decide (i ≠ b) := by decide +kernel
theorem isin_small : ∀ p, p < 7 → ∀ x, x < 128 → decide (fAnd (fShr ((x : Nat) : Int) ((p : Nat) : Int)) 1 = 1) = x.testBit p := by decide +kernel
theorem and_sq {P Q : Nat → Bool} {n : Nat} (hn : n ≤ 7) : fAnd ((sq P n : Nat) : Int) ((sq Q n : Nat) : Int) = ((sq (fun i => P i && Q i) n : Nat) : Int) := by
  rw [and_small _ (sq_small hn) _ (sq_small hn)]
  congr 1
  apply Nat.eq_of_testBit_eq
  intro i
  rw [Nat.testBit_and, sq_bit, sq_bit, sq_bit]
  cases decide (i < n) <;> cases P i <;> cases Q i <;> rfl
theorem not_sq {P : Nat → Bool} {n b : Nat} (hn : n ≤ 7) (hb : b < 7) : fAnd ((sq P n : Nat) : Int) (fXor (fShl 1 ((b : Nat) : Int)) (-1)) = ((sq (fun i => P i && decide (i ≠ b)) n : Nat) : Int) := by
  rw [not_small b hb _ (sq_small hn)]
  congr 1
  apply Nat.eq_of_testBit_eq
  intro i
  rw [Nat.testBit_and, sq_bit, sq_bit]
  by_cases hi : i < n
  · rw [not_bit b hb i (by omega), decide_eq_true hi]
    cases P i <;> simp
  · rw [decide_eq_false hi]
    simp
theorem isin_sq {P : Nat → Bool} {n p : Nat} (hn : n ≤ 7) (hp : p < n) : fAnd (fShr ((sq P n : Nat) : Int) ((p : Nat) : Int)) 1 = 1 ↔ P p = true := by
  have h := isin_small p (by omega) _ (sq_small (P := P) hn)
  rw [sq_bit, decide_eq_true hp, Bool.true_and] at h
  rw [← h, decide_eq_true_eq]
def CoM (c : Kc) (h : mM) : Prop := h 131 0 = c 0 0 ∧ h 131 7 = c 1 0 ∧ (∀ i, 1 ≤ i → i ≤ 6 → h 131 i = c 2 i) ∧ (∀ i, 0 ≤ i → i < c 0 0 → h 131 (10 + 5 * i + 0) = c 3 i) ∧ (∀ i, 0 ≤ i → i < c 0 0 → h 131 (10 + 5 * i + 1) = c 4 i) ∧ (∀ i, 0 ≤ i → i < c 0 0 → h 131 (10 + 5 * i + 2) = c 5 i) ∧ (∀ i, 0 ≤ i → i < c 0 0 → h 131 (10 + 5 * i + 3) = c 6 i) ∧ (∀ i, 0 ≤ i → i < c 0 0 → h 131 (10 + 5 * i + 4) = c 7 i)
theorem CoM.n {c : Kc} {h : mM} (k : CoM c h) : h 131 0 = c 0 0 := k.1
theorem CoM.g {c : Kc} {h : mM} (k : CoM c h) : h 131 7 = c 1 0 := k.2.1
theorem CoM.r {c : Kc} {h : mM} (k : CoM c h) (i : Int) (h1 : 1 ≤ i) (h2 : i ≤ 6) : h 131 i = c 2 i := k.2.2.1 i h1 h2
theorem CoM.p {c : Kc} {h : mM} (k : CoM c h) (i : Int) (h1 : 0 ≤ i) (h2 : i < c 0 0) : h 131 (10 + 5 * i + 0) = c 3 i := k.2.2.2.1 i h1 h2
theorem CoM.m {c : Kc} {h : mM} (k : CoM c h) (i : Int) (h1 : 0 ≤ i) (h2 : i < c 0 0) : h 131 (10 + 5 * i + 1) = c 4 i := k.2.2.2.2.1 i h1 h2
theorem CoM.w {c : Kc} {h : mM} (k : CoM c h) (i : Int) (h1 : 0 ≤ i) (h2 : i < c 0 0) : h 131 (10 + 5 * i + 2) = c 5 i := k.2.2.2.2.2.1 i h1 h2
theorem CoM.l {c : Kc} {h : mM} (k : CoM c h) (i : Int) (h1 : 0 ≤ i) (h2 : i < c 0 0) : h 131 (10 + 5 * i + 3) = c 6 i := k.2.2.2.2.2.2.1 i h1 h2
theorem CoM.q {c : Kc} {h : mM} (k : CoM c h) (i : Int) (h1 : 0 ≤ i) (h2 : i < c 0 0) : h 131 (10 + 5 * i + 4) = c 7 i := k.2.2.2.2.2.2.2 i h1 h2
/-- the people's own cells alone have changed, and the sums of an evening -/
def Oc (h h' : mM) : Prop := (∀ a, a ≠ 131 → a ≠ 139 → h' a = h a) ∧ ∀ k, (46 ≤ k ∨ k = 8) → h' 131 k = h 131 k
theorem Oc.rf {h : mM} : Oc h h := ⟨fun _ _ _ => rfl, fun _ _ => rfl⟩
theorem Oc.tr {h k g : mM} (p : Oc h k) (q : Oc k g) : Oc h g := ⟨fun a h1 h2 => (q.1 a h1 h2).trans (p.1 a h1 h2), fun j hj => (q.2 j hj).trans (p.2 j hj)⟩
theorem Oc.up {h k : mM} (p : Oc h k) {i v : Int} (hi : i < 46 ∧ i ≠ 8) : Oc h (upM k 131 i v) := ⟨fun a h1 h2 => by rw [up_row h1]; exact p.1 a h1 h2, fun j hj => by rw [up_at, if_neg (by omega)]; exact p.2 j hj⟩
theorem Oc.up9 {h k : mM} (p : Oc h k) {i v : Int} : Oc h (upM k 139 i v) := ⟨fun a h1 h2 => by rw [up_row h2]; exact p.1 a h1 h2, fun j hj => by rw [up_ne (by omega)]; exact p.2 j hj⟩
theorem farI_max (a b : Int) : max (a - b) (b - a) = farI a b := by
  unfold farI
  split <;> omega
section
variable {xs : List Int} {d : Nat} {c : Kc} {h : mM}
theorem m_personRow {p : Int} (hp : 0 ≤ p ∧ p ≤ 100) : C xs d 111 0 [mI p] h = some ([mI (10 + 5 * p)], h) := by
  rw [c_M_personRow]
  refine if_y (by omega) ?_
  refine if_y (by omega) ?_
  rfl
theorem m_personOf {p f : Int} (hp : 0 ≤ p ∧ p ≤ 7) (hf : 0 ≤ f ∧ f ≤ 4) : C xs d 129 0 [mR 130, mI p, mI f] h = some ([mI (h 131 (10 + 5 * p + f))], h) := by
  rw [c_M_personOf]
  refine cI_of (m_personRow (by omega)) ?_
  refine if_y (by omega) ?_
  refine if_y (by omega) ?_
  rfl
theorem m_whomOf (k : CoM c h) (w : WfC c) {p : Int} (hp : 0 ≤ p ∧ p < c 0 0) : C xs d 130 0 [mR 130, mI p] h = some ([mI (c 7 p)], h) := by
  have hn := w.1
  rw [c_M_whomOf]
  refine cI_of (m_personOf (by omega) (by omega)) ?_
  rw [k.q p hp.1 hp.2]
theorem m_farBetween (k : CoM c h) (w : WfC c) {i j : Int} (hi : 0 ≤ i ∧ i < c 0 0) (hj : 0 ≤ j ∧ j < c 0 0) : C xs d 131 0 [mR 130, mI i, mI j] h = some ([mI (farI (c 3 i) (c 3 j))], h) := by
  have hn := w.1
  have a1 := (w.2.2.2.2.2.2.2.2 i hi.1 hi.2).1
  have a2 := (w.2.2.2.2.2.2.2.2 j hj.1 hj.2).1
  rw [c_M_farBetween]
  refine cI_of (m_personOf (by omega) (by omega)) ?_
  refine cI_of (m_personOf (by omega) (by omega)) ?_
  rw [k.p i hi.1 hi.2, k.p j hj.1 hj.2]
  refine if_y (by omega) ?_
  refine cI_of (m_personOf (by omega) (by omega)) ?_
  refine cI_of (m_personOf (by omega) (by omega)) ?_
  rw [k.p i hi.1 hi.2, k.p j hj.1 hj.2]
  refine if_y (by omega) ?_
  rw [farI_max]
theorem m_warmBy {x0 x1 x2 x3 : Int} (h0 : 0 ≤ x0 ∧ x0 ≤ 20) (h1 : 0 ≤ x1 ∧ x1 ≤ 9) (h2 : 0 ≤ x2 ∧ x2 ≤ 1000) (h3 : 1 ≤ x3) : C xs d 132 0 [mI x0, mI x1, mI x2, mI x3] h = some ([mI (wmI x0 x1 x2 x3)], h) := by
  have a1 := mul_bd h0.1 h0.2 h1.1 h1.2
  have a2 := div_bd h2.1 (show 0 < x3 by omega)
  rw [c_M_warmBy]
  refine if_y (by omega) ?_
  refine if_y (by omega) ?_
  refine if_y (by omega) ?_
  rfl
theorem m_warmOf (k : CoM c h) (w : WfC c) {p : Int} (hp : 0 ≤ p ∧ p < c 0 0) (hq : c 7 p ≠ -1) : C xs d 133 0 [mR 130, mI p] h = some ([mI (warmI c p)], h) := by
  have hn := w.1
  obtain ⟨a1, a2, a3, a4, a5⟩ := w.2.2.2.2.2.2.2.2 p hp.1 hp.2
  obtain ⟨b1, -⟩ := w.2.2.2.2.2.2.2.2 (c 7 p) (by omega) (by omega)
  rw [c_M_warmOf]
  refine cI_of (m_personOf (by omega) (by omega)) ?_
  refine cI_of (m_whomOf k w hp) ?_
  refine cI_of (m_farBetween k w hp (by omega)) ?_
  rw [k.r 5 (by omega) (by omega), k.r 6 (by omega) (by omega), k.m p hp.1 hp.2]
  refine cI_of (m_warmBy ⟨by have := w.2.2.2.2.2.2.1; omega, w.2.2.2.2.2.2.1.2⟩ a2 (by have := farI_bd a1 b1; omega) w.2.2.2.2.2.2.2.1.1) ?_
  rfl
theorem m_isLit (k : CoM c h) (w : WfC c) {p : Int} (hp : 0 ≤ p ∧ p < c 0 0) : C xs d 134 0 [mR 130, mI p] h = some ([mI (b2i (c 2 3 ≤ c 5 p))], h) := by
  have hn := w.1
  rw [c_M_isLit]
  refine cI_of (m_personOf (by omega) (by omega)) ?_
  rw [k.w p hp.1 hp.2, k.r 3 (by omega) (by omega)]
  by_cases q : c 5 p < c 2 3
  · rw [if_pos q, b2i_n (by omega)]
  · rw [if_neg q, b2i_y (by omega)]
theorem or_zero : ∀ x, x < 128 → fOr ((x : Nat) : Int) 0 = ((x : Nat) : Int) := by decide +kernel
theorem m_areLit (k : CoM c h) (w : WfC c) : C xs d 135 0 [mR 130] h = some ([mI ((sq (litB c) (c 0 0).toNat : Nat) : Int)], h) := by
  have hn := w.1
  rw [c_M_areLit xs d]
  have st : ∀ i : Nat, i < (c 0 0).toNat → X xs d k_M_areLit 4 [mR 130, mI ((sq (litB c) i : Nat) : Int), mI (i : Int)] [] h = X xs d k_M_areLit 4 [mR 130, mI ((sq (litB c) (i + 1) : Nat) : Int), mI ((i + 1 : Nat) : Int)] [] h := by
    intro i hi
    rw [e_M_areLit_4 xs d, k.n]
    refine if_y (by omega) ?_
    refine cI_of (m_isLit k w (by omega)) ?_
    by_cases q : c 2 3 ≤ c 5 (i : Int)
    · rw [if_neg (fun z => b2i_0.mp z q), e_M_areLit_20 xs d, sq_or (by omega), sq_y (decide_eq_true q)]
      refine if_y (by omega) ?_
      rfl
    · rw [if_pos (b2i_0.mpr q), e_M_areLit_20 xs d, sq_n (decide_eq_false q), or_zero _ (sq_small (by omega))]
      refine if_y (by omega) ?_
      rfl
  refine (run_to (fun i : Nat => X xs d k_M_areLit 4 [mR 130, mI ((sq (litB c) i : Nat) : Int), mI (i : Int)] [] h) st).trans ?_
  show X xs d k_M_areLit 4 _ [] h = _
  rw [e_M_areLit_4 xs d, k.n]
  refine if_n (by omega) ?_
  rfl
theorem m_haveWhom (k : CoM c h) (w : WfC c) : C xs d 136 0 [mR 130] h = some ([mI ((sq (whoB c) (c 0 0).toNat : Nat) : Int)], h) := by
  have hn := w.1
  rw [c_M_haveWhom xs d]
  have st : ∀ i : Nat, i < (c 0 0).toNat → X xs d k_M_haveWhom 4 [mR 130, mI ((sq (whoB c) i : Nat) : Int), mI (i : Int)] [] h = X xs d k_M_haveWhom 4 [mR 130, mI ((sq (whoB c) (i + 1) : Nat) : Int), mI ((i + 1 : Nat) : Int)] [] h := by
    intro i hi
    rw [e_M_haveWhom_4 xs d, k.n]
    refine if_y (by omega) ?_
    refine cI_of (m_whomOf k w (by omega)) ?_
    by_cases q : c 7 (i : Int) = -1
    · rw [if_pos q, e_M_haveWhom_21 xs d, sq_n (decide_eq_false (fun z => z q)), or_zero _ (sq_small (by omega))]
      refine if_y (by omega) ?_
      rfl
    · rw [if_neg q, e_M_haveWhom_21 xs d, sq_or (by omega), sq_y (decide_eq_true q)]
      refine if_y (by omega) ?_
      rfl
  refine (run_to (fun i : Nat => X xs d k_M_haveWhom 4 [mR 130, mI ((sq (whoB c) i : Nat) : Int), mI (i : Int)] [] h) st).trans ?_
  show X xs d k_M_haveWhom 4 _ [] h = _
  rw [e_M_haveWhom_4 xs d, k.n]
  refine if_n (by omega) ?_
  rfl
theorem m_warmersOf (k : CoM c h) (w : WfC c) (t : Int) : C xs d 137 0 [mR 130, mI t] h = some ([mI ((sq (warB c t) (c 0 0).toNat : Nat) : Int)], h) := by
  have hn := w.1
  rw [c_M_warmersOf xs d]
  have st : ∀ i : Nat, i < (c 0 0).toNat → X xs d k_M_warmersOf 4 [mR 130, mI t, mI ((sq (warB c t) i : Nat) : Int), mI (i : Int)] [] h = X xs d k_M_warmersOf 4 [mR 130, mI t, mI ((sq (warB c t) (i + 1) : Nat) : Int), mI ((i + 1 : Nat) : Int)] [] h := by
    intro i hi
    rw [e_M_warmersOf_4 xs d, k.n]
    refine if_y (by omega) ?_
    refine cI_of (m_whomOf k w (by omega)) ?_
    by_cases q : c 7 (i : Int) = t
    · rw [if_pos q, e_M_warmersOf_21 xs d, sq_or (by omega), sq_y (decide_eq_true q)]
      refine if_y (by omega) ?_
      rfl
    · rw [if_neg q, e_M_warmersOf_21 xs d, sq_n (decide_eq_false q), or_zero _ (sq_small (by omega))]
      refine if_y (by omega) ?_
      rfl
  refine (run_to (fun i : Nat => X xs d k_M_warmersOf 4 [mR 130, mI t, mI ((sq (warB c t) i : Nat) : Int), mI (i : Int)] [] h) st).trans ?_
  show X xs d k_M_warmersOf 4 _ [] h = _
  rw [e_M_warmersOf_4 xs d, k.n]
  refine if_n (by omega) ?_
  rfl
theorem m_together (k : CoM c h) (w : WfC c) {f : Int} {g : Nat} (hf : (f = 2 ∧ g = 5) ∨ (f = 3 ∧ g = 6)) : C xs d 138 0 [mR 130, mI f] h = some ([mI (sumN (fun p => c g (p : Int)) (c 0 0).toNat)], h) := by
  have hn := w.1
  rw [c_M_together xs d]
  have st : ∀ i : Nat, i < (c 0 0).toNat → X xs d k_M_together 4 [mR 130, mI f, mI (sumN (fun p => c g (p : Int)) i), mI (i : Int)] [] h = X xs d k_M_together 4 [mR 130, mI f, mI (sumN (fun p => c g (p : Int)) (i + 1)), mI ((i + 1 : Nat) : Int)] [] h := by
    intro i hi
    rw [e_M_together_4 xs d, k.n]
    refine if_y (by omega) ?_
    refine cI_of (m_personOf (by omega) (by omega)) ?_
    rcases hf with ⟨rfl, rfl⟩ | ⟨rfl, rfl⟩
    · have bd := wsum_bd w (i := i) (by omega)
      have b2 := (w.2.2.2.2.2.2.2.2 i (by omega) (by omega)).2.2.1
      rw [k.w i (by omega) (by omega)]
      refine if_y (by omega) ?_
      refine if_y (by omega) ?_
      rfl
    · have bd := lsum_bd w (i := i) (by omega)
      have b2 := (w.2.2.2.2.2.2.2.2 i (by omega) (by omega)).2.2.2.1
      rw [k.l i (by omega) (by omega)]
      refine if_y (by omega) ?_
      refine if_y (by omega) ?_
      rfl
  refine (run_to (fun i : Nat => X xs d k_M_together 4 [mR 130, mI f, mI (sumN (fun p => c g (p : Int)) i), mI (i : Int)] [] h) st).trans ?_
  show X xs d k_M_together 4 _ [] h = _
  rw [e_M_together_4 xs d, k.n]
  refine if_n (by omega) ?_
  rfl
theorem m_warms (k : CoM c h) (w : WfC c) {p v : Int} (hp : 0 ≤ p ∧ p < c 0 0) (hv : 0 ≤ v ∧ v ≤ 100000) : C xs d 142 0 [mR 130, mI p, mI v] h = some ([], upM h 131 (10 + 5 * p + 2) (min 99 (c 5 p + v))) := by
  have hn := w.1
  have a3 := (w.2.2.2.2.2.2.2.2 p hp.1 hp.2).2.2.1
  rw [c_M_warms]
  refine cI_of (m_personRow (by omega)) ?_
  refine if_y (by omega) ?_
  refine cI_of (m_personOf (by omega) (by omega)) ?_
  rw [k.w p hp.1 hp.2]
  refine if_y (by omega) ?_
  refine if_y (by omega) ?_
  rfl
/-- a person's cell is written -/
def setC (c : Kc) (f : Nat) (p v : Int) : Kc := fun f' i => if f' = f ∧ i = p then v else c f' i
theorem CoM.set (k : CoM c h) {p v f : Int} (hp : 0 ≤ p ∧ p ≤ 6) (hf : 0 ≤ f ∧ f ≤ 4) : CoM (setC c (3 + f.toNat) p v) (upM h 131 (10 + 5 * p + f) v) := by
  have e0 : ∀ g i, g < 3 → setC c (3 + f.toNat) p v g i = c g i := fun g i hg => if_neg (by omega)
  have key : ∀ (j : Int) (g : Nat), 0 ≤ j → j ≤ 4 → g = 3 + j.toNat → (∀ i, 0 ≤ i → i < c 0 0 → h 131 (10 + 5 * i + j) = c g i) → ∀ i, 0 ≤ i → i < setC c (3 + f.toNat) p v 0 0 → upM h 131 (10 + 5 * p + f) v 131 (10 + 5 * i + j) = setC c (3 + f.toNat) p v g i := by
    intro j g j1 j2 hg hk i h1 h2
    rw [e0 0 0 (by omega)] at h2
    rw [up_at]
    unfold setC
    by_cases e : i = p ∧ j = f
    · rw [if_pos (by omega), if_pos (by omega)]
    · rw [if_neg (by omega), if_neg (by omega), hk i h1 h2]
  refine ⟨?_, ?_, fun i h1 h2 => ?_, key 0 3 (by omega) (by omega) rfl k.p, key 1 4 (by omega) (by omega) rfl k.m, key 2 5 (by omega) (by omega) rfl k.w, key 3 6 (by omega) (by omega) rfl k.l, key 4 7 (by omega) (by omega) rfl k.q⟩
  · rw [up_at, if_neg (by omega), e0 0 0 (by omega)]; exact k.n
  · rw [up_at, if_neg (by omega), e0 1 0 (by omega)]; exact k.g
  · rw [up_at, if_neg (by omega), e0 2 i (by omega)]; exact k.r i h1 h2
theorem CoM.ext {c' : Kc} (k : CoM c h) (e : ∀ f i, f ≤ 7 → (f ≤ 1 → i = 0) → c f i = c' f i) : CoM c' h := by
  unfold CoM at k ⊢
  have e0 := e 0 0 (by omega) (fun _ => rfl)
  have e1 := e 1 0 (by omega) (fun _ => rfl)
  obtain ⟨k1, k2, k3, k4, k5, k6, k7, k8⟩ := k
  rw [← e0, ← e1]
  exact ⟨k1, k2, fun i a b => (k3 i a b).trans (e 2 i (by omega) (by omega)), fun i a b => (k4 i a b).trans (e 3 i (by omega) (by omega)), fun i a b => (k5 i a b).trans (e 4 i (by omega) (by omega)), fun i a b => (k6 i a b).trans (e 5 i (by omega) (by omega)), fun i a b => (k7 i a b).trans (e 6 i (by omega) (by omega)), fun i a b => (k8 i a b).trans (e 7 i (by omega) (by omega))⟩
theorem CoM.mv {h' : mM} (k : CoM c h) (e : h' 131 = h 131) : CoM c h' := by
  unfold CoM
  rw [e]
  exact k
theorem m_drinks (k : CoM c h) (w : WfC c) {p : Int} (hp : 0 ≤ p ∧ p < c 0 0) (hq : c 7 p ≠ -1) (hl : c 6 p ≠ 0) : ∃ h', C xs d 143 0 [mR 130, mI p] h = some ([mI 1], h') ∧ CoM (drC c p) h' ∧ Oc h h' := by
  have hn := w.1
  obtain ⟨a1, a2, a3, a4, a5⟩ := w.2.2.2.2.2.2.2.2 p hp.1 hp.2
  have wb := warmI_bd w hp hq
  rw [c_M_drinks]
  have k2 : CoM (setC c 6 p (c 6 p - 1)) (upM h 131 (10 + 5 * p + 3) (c 6 p - 1)) := k.set (f := 3) (by omega) (by omega)
  have e : ∀ g i, g ≠ 6 → setC c 6 p (c 6 p - 1) g i = c g i := fun g i hg => if_neg (fun z => hg z.1)
  have w2 : WfC (setC c 6 p (c 6 p - 1)) := by
    obtain ⟨hn, hg, r1, r2, r3, r4, r5, r6, hw⟩ := w
    unfold WfC WfP
    simp only [e 0 _ (by omega), e 1 _ (by omega), e 2 _ (by omega), e 3 _ (by omega), e 4 _ (by omega), e 5 _ (by omega), e 7 _ (by omega)]
    refine ⟨hn, hg, r1, r2, r3, r4, r5, r6, fun i h1 h2 => ?_⟩
    obtain ⟨b1, b2, b3, b4, b5⟩ := hw i h1 h2
    refine ⟨b1, b2, b3, ?_, b5⟩
    unfold setC
    by_cases q : i = p
    · rw [if_pos ⟨rfl, q⟩]; omega
    · rw [if_neg (fun z => q z.2)]; exact b4
  have n2 : setC c 6 p (c 6 p - 1) 0 0 = c 0 0 := e 0 0 (by omega)
  have q2 : setC c 6 p (c 6 p - 1) 7 p = c 7 p := e 7 p (by omega)
  have ww : warmI (setC c 6 p (c 6 p - 1)) p = warmI c p := by
    unfold warmI
    rw [e 2 5 (by omega), e 2 6 (by omega), e 4 p (by omega), e 3 p (by omega), e 7 p (by omega), e 3 _ (by omega)]
  have k3 := k2.set (p := c 7 p) (f := 2) (v := min 99 (c 5 (c 7 p) + warmI c p)) (by omega) (by omega)
  refine ⟨upM (upM h 131 (10 + 5 * p + 3) (c 6 p - 1)) 131 (10 + 5 * c 7 p + 2) (min 99 (c 5 (c 7 p) + warmI c p)), ?_, k3.ext ?_, (Oc.rf.up (by omega)).up (by omega)⟩
  · refine cI_of (m_personRow (by omega)) ?_
    refine cI_of (m_whomOf k w hp) ?_
    refine if_n (by omega) ?_
    refine if_y (by omega) ?_
    refine if_y (by omega) ?_
    rw [k.l p hp.1 hp.2]
    refine if_n (by omega) ?_
    refine if_y (by omega) ?_
    refine if_y (by omega) ?_
    refine if_y (by omega) ?_
    refine if_y (by omega) ?_
    refine cI_of (m_whomOf k2 w2 (by rw [n2]; exact hp)) ?_
    rw [q2]
    refine cI_of (m_warmOf k2 w2 (by rw [n2]; exact hp) (by rw [q2]; exact hq)) ?_
    rw [ww]
    refine cV_of (m_warms k2 w2 (by rw [n2]; omega) (by omega)) ?_
    rw [e 5 _ (by omega)]
  · intro f i _ _
    unfold drC setC
    show (if f = 5 ∧ i = c 7 p then _ else if f = 6 ∧ i = p then _ else _) = _
    by_cases e1 : f = 6 ∧ i = p
    · rw [if_neg (by omega), if_pos e1, if_pos e1]
    · rw [if_neg e1, if_neg e1]
theorem m_drinksNo (k : CoM c h) (w : WfC c) {p : Int} (hp : 0 ≤ p ∧ p < c 0 0) (hq : ¬ (c 7 p ≠ -1 ∧ c 6 p ≠ 0)) : C xs d 143 0 [mR 130, mI p] h = some ([mI 0], h) := by
  have hn := w.1
  rw [c_M_drinks]
  refine cI_of (m_personRow (by omega)) ?_
  refine cI_of (m_whomOf k w hp) ?_
  by_cases q1 : c 7 p = -1
  · refine if_y (by omega) ?_
    rfl
  · refine if_n (by omega) ?_
    refine if_y (by omega) ?_
    refine if_y (by omega) ?_
    rw [k.l p hp.1 hp.2]
    refine if_y (Decidable.byContradiction (fun z => hq ⟨q1, z⟩)) ?_
    rfl
end
