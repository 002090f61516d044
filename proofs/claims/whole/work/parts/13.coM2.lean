/-! EQUIV 3: the reference's nights, evenings, copies -/
/-- a row written from a place on -/
def rowW (h : mM) (a : Nat) (lo i : Int) (f : Int → Int) : mM := fun a' k => if a' = a ∧ lo ≤ k ∧ k < lo + i then f k else h a' k
theorem rowW_0 {h : mM} {a : Nat} {lo : Int} {f : Int → Int} : rowW h a lo 0 f = h := by
  funext a' k
  unfold rowW
  rw [if_neg (by omega)]
theorem rowW_up {h : mM} {a : Nat} {lo i v : Int} {f : Int → Int} (hi : 0 ≤ i) (hv : v = f (lo + i)) : upM (rowW h a lo i f) a (lo + i) v = rowW h a lo (i + 1) f := by
  funext a' k
  unfold upM rowW
  by_cases e : a' = a ∧ k = lo + i
  · rw [if_pos e, if_pos ⟨e.1, by omega⟩, hv, e.2]
  · rw [if_neg e]
    by_cases e2 : a' = a ∧ lo ≤ k ∧ k < lo + i
    · rw [if_pos e2, if_pos ⟨e2.1, by omega⟩]
    · rw [if_neg e2, if_neg (fun z => by
        have : k = lo + i := by
          by_cases q : k < lo + i
          · exact absurd ⟨z.1, z.2.1, q⟩ e2
          · omega
        exact e ⟨z.1, this⟩)]
theorem rowW_in {h : mM} {a : Nat} {lo i k : Int} {f : Int → Int} (hk : lo ≤ k ∧ k < lo + i) : rowW h a lo i f a k = f k := if_pos ⟨rfl, hk⟩
theorem rowW_out {h : mM} {a : Nat} {lo i k : Int} {f : Int → Int} (hk : ¬ (lo ≤ k ∧ k < lo + i)) : rowW h a lo i f a k = h a k := if_neg (fun z => hk z.2)
theorem rowW_ne {h : mM} {a b : Nat} {lo i : Int} {f : Int → Int} (e : b ≠ a) : rowW h a lo i f b = h b := funext fun k => if_neg (fun z => e z.1)
section
variable {xs : List Int} {d : Nat} {c : Kc} {h : mM}
theorem m_cools (k : CoM c h) (w : WfC c) {p : Int} (hp : 0 ≤ p ∧ p < c 0 0) : C xs d 145 0 [mR 130, mI p] h = some ([], upM h 131 (10 + 5 * p + 2) (max 0 (c 5 p - c 2 4))) := by
  have hn := w.1
  have a3 := (w.2.2.2.2.2.2.2.2 p hp.1 hp.2).2.2.1
  have r4 := w.2.2.2.2.2.1
  rw [c_M_cools]
  refine cI_of (m_personRow (by omega)) ?_
  refine if_y (by omega) ?_
  refine cI_of (m_personOf (by omega) (by omega)) ?_
  rw [k.w p hp.1 hp.2, k.r 4 (by omega) (by omega)]
  refine if_y (by omega) ?_
  refine if_y (by omega) ?_
  rfl
/-- the first so many have cooled -/
def cqN (c : Kc) (i : Int) : Kc := fun f j => if f = 5 ∧ 0 ≤ j ∧ j < i then max 0 (c 5 j - c 2 4) else c f j
theorem cqN_wf (w : WfC c) (i : Int) : WfC (cqN c i) := by
  obtain ⟨hn, hg, r1, r2, r3, r4, r5, r6, hw⟩ := w
  have e : ∀ f j, f ≠ 5 → cqN c i f j = c f j := fun f j hf => if_neg (fun z => hf z.1)
  unfold WfC WfP
  simp only [e 0 _ (by omega), e 1 _ (by omega), e 2 _ (by omega), e 3 _ (by omega), e 4 _ (by omega), e 6 _ (by omega), e 7 _ (by omega)]
  refine ⟨hn, hg, r1, r2, r3, r4, r5, r6, fun j h1 h2 => ?_⟩
  obtain ⟨b1, b2, b3, b4, b5⟩ := hw j h1 h2
  refine ⟨b1, b2, ?_, b4, b5⟩
  unfold cqN
  split <;> omega
theorem m_nightGoes (k : CoM c h) (w : WfC c) : ∃ h', C xs d 146 0 [mR 130] h = some ([], h') ∧ CoM (ntC c 1) h' ∧ Oc h h' := by
  have hn := w.1
  have hg := w.2.1
  rw [c_M_nightGoes]
  have key : ∀ (m : Nat) (i : Int) (g : mM), 0 ≤ i → i + m = c 0 0 → CoM (cqN c i) g → Oc h g → ∃ h', X xs d k_M_nightGoes 2 [mR 130, mI i] [] g = some ([], h') ∧ CoM (ntC c 1) h' ∧ Oc h h' := by
    intro m
    induction m with
    | zero =>
      intro i g h0 hi kg og
      have e0 : cqN c i 0 0 = c 0 0 := if_neg (by omega)
      have e1 : cqN c i 1 0 = c 1 0 := if_neg (by omega)
      rw [e_M_nightGoes_2, kg.n, kg.g, e0, e1, if_neg (by omega)]
      refine ⟨upM g 131 7 (c 1 0 + 1), if_y (by omega) rfl, ?_, og.up (by omega)⟩
      obtain ⟨k1, k2, k3, k4, k5, k6, k7, k8⟩ := kg
      rw [e0] at k1 k4 k5 k6 k7 k8
      have n0 : ntC c 1 0 0 = c 0 0 := by unfold ntC; rw [if_neg (by omega), if_neg (by omega)]
      have nn : ∀ f j, f ≠ 5 → f ≠ 1 → ntC c 1 f j = c f j := fun f j h5 h1 => by unfold ntC; rw [if_neg h5, if_neg h1]
      have cc : ∀ f j, f ≠ 5 → cqN c i f j = c f j := fun f j h5 => if_neg (fun z => h5 z.1)
      refine ⟨?_, ?_, fun j h1 h2 => ?_, fun j h1 h2 => ?_, fun j h1 h2 => ?_, fun j h1 h2 => ?_, fun j h1 h2 => ?_, fun j h1 h2 => ?_⟩
      · rw [up_at, if_neg (by omega), k1, n0]
      · rw [up_at, if_pos rfl]; rfl
      · rw [up_at, if_neg (by omega), k3 j h1 h2, cc 2 j (by omega), nn 2 j (by omega) (by omega)]
      · rw [n0] at h2; rw [up_at, if_neg (by omega), k4 j h1 h2, cc 3 j (by omega), nn 3 j (by omega) (by omega)]
      · rw [n0] at h2; rw [up_at, if_neg (by omega), k5 j h1 h2, cc 4 j (by omega), nn 4 j (by omega) (by omega)]
      · rw [n0] at h2
        rw [up_at, if_neg (by omega), k6 j h1 h2]
        unfold cqN ntC
        rw [if_pos ⟨rfl, by omega⟩, if_pos rfl, Int.one_mul]
      · rw [n0] at h2; rw [up_at, if_neg (by omega), k7 j h1 h2, cc 6 j (by omega), nn 6 j (by omega) (by omega)]
      · rw [n0] at h2; rw [up_at, if_neg (by omega), k8 j h1 h2, cc 7 j (by omega), nn 7 j (by omega) (by omega)]
    | succ m ih =>
      intro i g h0 hi kg og
      have e0 : cqN c i 0 0 = c 0 0 := if_neg (by omega)
      have wg := cqN_wf w i
      rw [e_M_nightGoes_2, kg.n, e0, if_pos (by omega)]
      obtain ⟨h', r1, r2, r3⟩ := ih (i + 1) _ (by omega) (by omega) ((kg.set (p := i) (f := 2) (v := max 0 (cqN c i 5 i - cqN c i 2 4)) (by omega) (by omega)).ext (c' := cqN c (i + 1)) (fun f j _ _ => by
        unfold setC cqN
        show (if f = 5 ∧ j = i then max 0 ((if 5 = 5 ∧ 0 ≤ i ∧ i < i then _ else c 5 i) - (if 2 = 5 ∧ 0 ≤ (4 : Int) ∧ (4 : Int) < i then _ else c 2 4)) else _) = _
        rw [if_neg (show ¬ (5 = 5 ∧ 0 ≤ i ∧ i < i) by omega), if_neg (show ¬ (2 = 5 ∧ 0 ≤ (4 : Int) ∧ (4 : Int) < i) by omega)]
        by_cases q : f = 5 ∧ j = i
        · rw [if_pos q, if_pos (by omega), q.2]
        · rw [if_neg q]
          by_cases q2 : f = 5 ∧ 0 ≤ j ∧ j < i
          · rw [if_pos q2, if_pos (by omega)]
          · rw [if_neg q2, if_neg (by omega)])) (og.up (by omega))
      refine ⟨h', ?_, r2, r3⟩
      refine cV_of (m_cools kg wg (by rw [e0]; omega)) ?_
      refine if_y (by omega) ?_
      exact r1
  exact key (c 0 0).toNat 0 h (by omega) (by omega) (k.ext (fun f j _ _ => (if_neg (by omega)).symm)) Oc.rf
theorem ntC_ntC (c : Kc) {n : Int} (hn : 0 ≤ n) (h4 : 0 ≤ c 2 4) : ntC (ntC c n) 1 = ntC c (n + 1) := by
  funext f i
  unfold ntC
  show (if f = 5 then max 0 (max 0 (c 5 i - n * c 2 4) - 1 * c 2 4) else if f = 1 then (c 1 i + n) + 1 else if f = 5 then _ else if f = 1 then _ else c f i) = _
  by_cases h5 : f = 5
  · rw [if_pos h5, if_pos h5, Int.add_mul]
    have := Int.mul_nonneg hn h4
    omega
  · rw [if_neg h5, if_neg h5, if_neg h5]
    by_cases h1 : f = 1
    · rw [if_pos h1, if_pos h1]; omega
    · rw [if_neg h1, if_neg h1, if_neg h1]
theorem ntC_0 (w : WfC c) : ∀ f i, f ≤ 7 → (f ≤ 1 → i = 0) → (0 ≤ i ∧ i < c 0 0 ∨ f ≠ 5) → c f i = ntC c 0 f i := by
  intro f i _ _ hi
  unfold ntC
  by_cases h5 : f = 5
  · have := (w.2.2.2.2.2.2.2.2 i (by omega) (by omega)).2.2.1
    rw [if_pos h5, Int.zero_mul, h5]
    omega
  · rw [if_neg h5]
    by_cases h1 : f = 1
    · rw [if_pos h1, h1]; omega
    · rw [if_neg h1]
theorem m_nightsGo (k : CoM c h) (w : WfC c) {n : Int} (h1 : 0 ≤ n ∧ n ≤ 1000) (hg : c 1 0 + n ≤ 20000) : ∃ h', C xs d 147 0 [mR 130, mI n] h = some ([], h') ∧ CoM (ntC c n) h' ∧ Oc h h' := by
  have hn := w.1
  have r4 := w.2.2.2.2.2.1
  rw [c_M_nightsGo]
  have key : ∀ (m : Nat) (i : Int) (g : mM), 0 ≤ i → i + m = n → CoM (ntC c i) g → Oc h g → ∃ h', X xs d k_M_nightsGo 2 [mR 130, mI n, mI i] [] g = some ([], h') ∧ CoM (ntC c n) h' ∧ Oc h h' := by
    intro m
    induction m with
    | zero =>
      intro i g h0 hi kg og
      obtain rfl : i = n := by omega
      rw [e_M_nightsGo_2, if_neg (by omega)]
      exact ⟨g, rfl, kg, og⟩
    | succ m ih =>
      intro i g h0 hi kg og
      have wg := ntC_wf w h0 (by omega)
      obtain ⟨g2, s1, s2, s3⟩ := m_nightGoes (xs := xs) (d := d) kg wg
      rw [ntC_ntC c h0 r4.1] at s2
      obtain ⟨h', r1, r2, r3⟩ := ih (i + 1) g2 (by omega) (by omega) s2 (og.tr s3)
      refine ⟨h', ?_, r2, r3⟩
      rw [e_M_nightsGo_2, if_pos (by omega)]
      refine cV_of (s1) ?_
      refine if_y (by omega) ?_
      exact r1
  refine key n.toNat 0 h (by omega) (by omega) ?_ Oc.rf
  have n0 : ntC c 0 0 0 = c 0 0 := by unfold ntC; rw [if_neg (by omega), if_neg (by omega)]
  have z := ntC_0 w
  obtain ⟨k1, k2, k3, k4, k5, k6, k7, k8⟩ := k
  unfold CoM
  rw [n0]
  exact ⟨k1, k2.trans (z 1 0 (by omega) (fun _ => rfl) (by omega)), fun j a b => (k3 j a b).trans (z 2 j (by omega) (by omega) (by omega)), fun j a b => (k4 j a b).trans (z 3 j (by omega) (by omega) (by omega)), fun j a b => (k5 j a b).trans (z 4 j (by omega) (by omega) (by omega)), fun j a b => (k6 j a b).trans (z 5 j (by omega) (by omega) (by omega)), fun j a b => (k7 j a b).trans (z 6 j (by omega) (by omega) (by omega)), fun j a b => (k8 j a b).trans (z 7 j (by omega) (by omega) (by omega))⟩
theorem m_isIn {P : Nat → Bool} {n p : Nat} (hn : n ≤ 7) (hp : p < n) : C xs d 112 0 [mR 130, mI ((sq P n : Nat) : Int), mI (p : Int)] h = some ([mI (b2i (P p = true))], h) := by
  rw [c_M_isIn]
  by_cases q : P p = true
  · rw [if_pos ((isin_sq hn hp).mpr q), b2i_y q]
  · rw [if_neg (fun z => q ((isin_sq hn hp).mp z)), b2i_n q]
theorem m_eveningGoes (k : CoM c h) (w : WfC c) (hg : c 1 0 ≤ 19000) {aw : Int} (haw : aw = -1 ∨ 0 ≤ aw ∧ aw < c 0 0) : ∃ h', C xs d 149 0 [mR 130, mI aw] h = some ([mI ((sq (evB c aw) (c 0 0).toNat : Nat) : Int)], h') ∧ CoM (evC c aw) h' ∧ Oc h h' := by
  have hn := w.1
  -- who warms
  have set17 : C xs d 149 0 [mR 130, mI aw] h = X xs d k_M_eveningGoes 17 [mR 130, mI aw, mI ((sq (evB c aw) (c 0 0).toNat : Nat) : Int), mC 0] [] h := by
    rw [c_M_eveningGoes]
    refine cI_of (m_areLit k w) ?_
    refine cI_of (m_haveWhom k w) ?_
    rw [and_sq (by omega)]
    by_cases q : aw = -1
    · rw [if_pos q]
      have e : sq (fun i => litB c i && whoB c i) (c 0 0).toNat = sq (evB c aw) (c 0 0).toNat := sq_congr (fun i hi => by
        unfold litB whoB evB
        rw [← Bool.decide_and]
        exact decide_eq_decide.mpr ⟨fun z => ⟨by omega, z.1, z.2⟩, fun z => ⟨z.2.1, z.2.2⟩⟩)
      rw [e]
    · rw [if_neg q]
      obtain ⟨b, hb⟩ : ∃ b : Nat, aw = (b : Int) := ⟨aw.toNat, by omega⟩
      subst hb
      rw [not_sq (by omega) (by omega)]
      have e : sq (fun i => (litB c i && whoB c i) && decide (i ≠ b)) (c 0 0).toNat = sq (evB c (b : Int)) (c 0 0).toNat := sq_congr (fun i hi => by
        unfold litB whoB evB
        rw [← Bool.decide_and, ← Bool.decide_and]
        exact decide_eq_decide.mpr ⟨fun z => ⟨by omega, z.1.1, z.1.2⟩, fun z => ⟨⟨z.2.1, z.2.2⟩, by omega⟩⟩)
      rw [e]
  rw [set17, e_M_eveningGoes_17]
  -- all sums are 0
  have st1 : ∀ i : Nat, i < 7 → X xs d k_M_eveningGoes 19 [mR 130, mI aw, mI ((sq (evB c aw) (c 0 0).toNat : Nat) : Int), mI (i : Int)] [] (rowU h 139 i (fun _ => 0)) = X xs d k_M_eveningGoes 19 [mR 130, mI aw, mI ((sq (evB c aw) (c 0 0).toNat : Nat) : Int), mI ((i + 1 : Nat) : Int)] [] (rowU h 139 ((i + 1 : Nat) : Int) (fun _ => 0)) := by
    intro i hi
    rw [e_M_eveningGoes_19 xs d]
    refine if_y (by omega) ?_
    refine if_y (by omega) ?_
    refine if_y (by omega) ?_
    rw [rowU_up (by omega) rfl]
    rfl
  have r1 := run_to (fun i : Nat => X xs d k_M_eveningGoes 19 [mR 130, mI aw, mI ((sq (evB c aw) (c 0 0).toNat : Nat) : Int), mI (i : Int)] [] (rowU h 139 i (fun _ => 0))) st1
  have r1 : X xs d k_M_eveningGoes 19 [mR 130, mI aw, mI ((sq (evB c aw) (c 0 0).toNat : Nat) : Int), mI 0] [] (rowU h 139 0 (fun _ => 0)) = X xs d k_M_eveningGoes 19 [mR 130, mI aw, mI ((sq (evB c aw) (c 0 0).toNat : Nat) : Int), mI 7] [] (rowU h 139 7 (fun _ => 0)) := r1
  rw [rowU_0] at r1
  rw [r1, e_M_eveningGoes_19 xs d, if_neg (by omega)]
  have z0 : rowU h 139 7 (fun _ => 0) = rowU h 139 7 (fun t => comN c aw t 0) := rfl
  rw [z0]
  have kk : ∀ i : Nat, CoM c (rowU h 139 7 (fun t => comN c aw t i)) := fun i => k.mv (rowU_ne (by omega))
  have st2 : ∀ i : Nat, i < (c 0 0).toNat → X xs d k_M_eveningGoes 31 [mR 130, mI aw, mI ((sq (evB c aw) (c 0 0).toNat : Nat) : Int), mI (i : Int)] [] (rowU h 139 7 (fun t => comN c aw t i)) = X xs d k_M_eveningGoes 31 [mR 130, mI aw, mI ((sq (evB c aw) (c 0 0).toNat : Nat) : Int), mI ((i + 1 : Nat) : Int)] [] (rowU h 139 7 (fun t => comN c aw t (i + 1))) := by
    intro i hi
    have hp : 0 ≤ (i : Int) ∧ (i : Int) < c 0 0 := by omega
    obtain ⟨a1, a2, a3, a4, a5⟩ := w.2.2.2.2.2.2.2.2 i hp.1 hp.2
    rw [e_M_eveningGoes_31 xs d, (kk i).n]
    refine if_y (by omega) ?_
    refine cI_of (m_isIn (by omega) hi) ?_
    by_cases q : (i : Int) ≠ aw ∧ c 2 3 ≤ c 5 (i : Int) ∧ c 7 (i : Int) ≠ -1
    rotate_left
    · rw [if_pos (b2i_0.mpr (fun z : evB c aw i = true => q (of_decide_eq_true z))), e_M_eveningGoes_54 xs d]
      refine if_y (by omega) ?_
      have e : (fun t => comN c aw t (i + 1)) = (fun t => comN c aw t i) := by
        funext t
        show comN c aw t i + (if _ then _ else _) = _
        rw [if_neg (fun z => q ⟨z.1, z.2.1, z.2.2.1⟩), Int.add_zero]
      rw [e]
      rfl
    rw [if_neg (fun z => b2i_0.mp z (show evB c aw i = true from decide_eq_true q))]
    obtain ⟨q1, q2, q3⟩ := q
    have hq : 0 ≤ c 7 (i : Int) ∧ c 7 (i : Int) < c 0 0 := by omega
    refine cI_of (m_whomOf (kk i) w hp) ?_
    refine if_y (by omega) ?_
    refine cI_of (m_warmOf (kk i) w hp q3) ?_
    have cb := comN_bd w (aw := aw) (t := c 7 (i : Int)) (i := i) (by omega)
    have wb := warmI_bd w hp q3
    rw [rowU_in (by omega)]
    refine if_y (by omega) ?_
    refine if_y (by omega) ?_
    rw [e_M_eveningGoes_54 xs d]
    refine if_y (by omega) ?_
    have e : upM (rowU h 139 7 (fun t => comN c aw t i)) 139 (c 7 (i : Int)) (comN c aw (c 7 (i : Int)) i + warmI c (i : Int)) = rowU h 139 7 (fun t => comN c aw t (i + 1)) := by
      funext a j
      by_cases e1 : a = 139
      · subst e1
        rw [up_at]
        by_cases e2 : j = c 7 (i : Int)
        · rw [if_pos e2, rowU_in (by omega), e2]
          show _ = comN c aw (c 7 (i : Int)) i + (if _ then _ else _)
          rw [if_pos ⟨q1, q2, q3, rfl⟩]
        · rw [if_neg e2]
          by_cases e3 : 0 ≤ j ∧ j < 7
          · rw [rowU_in e3, rowU_in e3]
            show _ = comN c aw j i + (if _ then _ else _)
            rw [if_neg (fun z => e2 z.2.2.2.symm), Int.add_zero]
          · rw [rowU_out e3, rowU_out e3]
      · rw [up_ne e1, rowU_ne e1, rowU_ne e1]
    rw [e]
    rfl
  have r2 := run_to (fun i : Nat => X xs d k_M_eveningGoes 31 [mR 130, mI aw, mI ((sq (evB c aw) (c 0 0).toNat : Nat) : Int), mI (i : Int)] [] (rowU h 139 7 (fun t => comN c aw t i))) st2
  have r2 : X xs d k_M_eveningGoes 31 [mR 130, mI aw, mI ((sq (evB c aw) (c 0 0).toNat : Nat) : Int), mI 0] [] (rowU h 139 7 (fun t => comN c aw t 0)) = X xs d k_M_eveningGoes 31 [mR 130, mI aw, mI ((sq (evB c aw) (c 0 0).toNat : Nat) : Int), mI ((c 0 0).toNat : Int)] [] (rowU h 139 7 (fun t => comN c aw t (c 0 0).toNat)) := r2
  rw [r2, e_M_eveningGoes_31 xs d, (kk _).n, if_neg (by omega)]
  generalize hF : rowU h 139 7 (fun t => comN c aw t (c 0 0).toNat) = F
  have kF : CoM c F := by rw [← hF]; exact kk _
  have sF : ∀ t, 0 ≤ t → t < c 0 0 → F 139 t = comN c aw t (c 0 0).toNat := fun t h1 h2 => by rw [← hF, rowU_in (by omega)]
  have oF : Oc h F := by rw [← hF]; exact ⟨fun a _ h2 => rowU_ne h2, fun j _ => by rw [rowU_ne (by omega)]⟩
  -- warmth comes
  let cw : Int → Kc := fun i f j => if f = 5 ∧ 0 ≤ j ∧ j < i then min 99 (c 5 j + comN c aw j (c 0 0).toNat) else c f j
  have key : ∀ (m : Nat) (i : Int) (g : mM), 0 ≤ i → i + m = c 0 0 → CoM (cw i) g → g 139 = F 139 → Oc h g → ∃ h', X xs d k_M_eveningGoes 58 [mR 130, mI aw, mI ((sq (evB c aw) (c 0 0).toNat : Nat) : Int), mI i] [] g = some ([mI ((sq (evB c aw) (c 0 0).toNat : Nat) : Int)], h') ∧ CoM (evC c aw) h' ∧ Oc h h' := by
    intro m
    have wi : ∀ i, WfC (cw i) := by
      intro i
      obtain ⟨hn, hg, r1, r2, r3, r4, r5, r6, hw⟩ := w
      have e : ∀ f j, f ≠ 5 → cw i f j = c f j := fun f j hf => if_neg (fun z => hf z.1)
      unfold WfC WfP
      simp only [e 0 _ (by omega), e 1 _ (by omega), e 2 _ (by omega), e 3 _ (by omega), e 4 _ (by omega), e 6 _ (by omega), e 7 _ (by omega)]
      refine ⟨hn, hg, r1, r2, r3, r4, r5, r6, fun j h1 h2 => ?_⟩
      obtain ⟨b1, b2, b3, b4, b5⟩ := hw j h1 h2
      have cb := comN_bd ⟨hn, hg, r1, r2, r3, r4, r5, r6, hw⟩ (aw := aw) (t := j) (i := (c 0 0).toNat) (Nat.le_refl _)
      refine ⟨b1, b2, ?_, b4, b5⟩
      show (0 : Int) ≤ (if 5 = 5 ∧ 0 ≤ j ∧ j < i then min 99 (c 5 j + comN c aw j (c 0 0).toNat) else c 5 j) ∧ (if 5 = 5 ∧ 0 ≤ j ∧ j < i then min 99 (c 5 j + comN c aw j (c 0 0).toNat) else c 5 j) ≤ 99
      split <;> omega
    have e0 : ∀ i, cw i 0 0 = c 0 0 := fun i => if_neg (by omega)
    induction m with
    | zero =>
      intro i g h0 hi kg s9 og
      rw [e_M_eveningGoes_58, kg.n, e0, if_neg (by omega)]
      obtain ⟨h', s1, s2, s3⟩ := m_nightGoes (xs := xs) (d := d) kg (wi i)
      refine ⟨h', cV_of s1 rfl, ?_, og.tr s3⟩
      obtain ⟨k1, k2, k3, k4, k5, k6, k7, k8⟩ := s2
      have nn : ∀ f j, f ≠ 5 → ntC (cw i) 1 f j = evC c aw f j := fun f j hf => by
        unfold evC ntC
        rw [if_neg hf, if_neg hf]
        show (if f = 1 then cw i 1 j + 1 else cw i f j) = (if f = 1 then (if 1 = 5 then _ else c 1 j) + 1 else if f = 5 then _ else c f j)
        rw [if_neg hf, if_neg (show ¬ (1 : Nat) = 5 by omega), show cw i 1 j = c 1 j from if_neg (by omega), show cw i f j = c f j from if_neg (fun z => hf z.1)]
      have n0 : ntC (cw i) 1 0 0 = evC c aw 0 0 := nn 0 0 (by omega)
      have n00 : evC c aw 0 0 = c 0 0 := by rw [← n0]; unfold ntC; rw [if_neg (by omega), if_neg (by omega)]; exact e0 i
      unfold CoM
      rw [n0] at k1 k4 k5 k6 k7 k8
      refine ⟨k1, k2.trans (nn 1 0 (by omega)), fun j a b => (k3 j a b).trans (nn 2 j (by omega)), fun j a b => (k4 j a b).trans (nn 3 j (by omega)), fun j a b => (k5 j a b).trans (nn 4 j (by omega)), fun j a b => (k6 j a b).trans ?_, fun j a b => (k7 j a b).trans (nn 6 j (by omega)), fun j a b => (k8 j a b).trans (nn 7 j (by omega))⟩
      rw [n00] at b
      unfold evC ntC
      rw [if_pos rfl, if_pos rfl]
      show max 0 (cw i 5 j - 1 * cw i 2 4) = max 0 ((if 5 = 5 then min 99 (c 5 j + comN c aw j (c 0 0).toNat) else _) - 1 * (if 2 = 5 then _ else c 2 4))
      rw [if_pos rfl, if_neg (show ¬ (2 : Nat) = 5 by omega), show cw i 2 4 = c 2 4 from if_neg (by omega), show cw i 5 j = min 99 (c 5 j + comN c aw j (c 0 0).toNat) from if_pos ⟨rfl, by omega⟩]
    | succ m ih =>
      intro i g h0 hi kg s9 og
      have cb := comN_bd w (aw := aw) (t := i) (i := (c 0 0).toNat) (Nat.le_refl _)
      have c5 : cw i 5 i = c 5 i := if_neg (by omega)
      rw [e_M_eveningGoes_58, kg.n, e0, if_pos (by omega), s9, sF i (by omega) (by omega)]
      obtain ⟨h', r1, r2, r3⟩ := ih (i + 1) _ (by omega) (by omega) ((kg.set (p := i) (f := 2) (v := min 99 (cw i 5 i + comN c aw i (c 0 0).toNat)) (by omega) (by omega)).ext (c' := cw (i + 1)) (fun f j _ _ => by
        unfold setC
        rw [c5]
        show (if f = 5 ∧ j = i then _ else if f = 5 ∧ 0 ≤ j ∧ j < i then _ else c f j) = (if f = 5 ∧ 0 ≤ j ∧ j < i + 1 then _ else c f j)
        by_cases q : f = 5 ∧ j = i
        · rw [if_pos q, if_pos (by omega), q.2]
        · rw [if_neg q]
          by_cases q2 : f = 5 ∧ 0 ≤ j ∧ j < i
          · rw [if_pos q2, if_pos (by omega)]
          · rw [if_neg q2, if_neg (by omega)])) (by rw [up_row (by omega)]; exact s9) (og.up (by omega))
      refine ⟨h', ?_, r2, r3⟩
      refine if_y (by omega) ?_
      refine cV_of (m_warms kg (wi i) (by rw [e0]; omega) (by omega)) ?_
      refine if_y (by omega) ?_
      exact r1
  exact key (c 0 0).toNat 0 F (by omega) (by omega) (kF.ext (fun f j _ _ => (if_neg (by omega)).symm)) rfl oF
end
