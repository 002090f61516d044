/-! EQUIV 8: looking ahead -/
theorem cpy_row {h : mM} {a b a' : Nat} {i j n : Int} (e : a' ≠ b) : mCpy h a i b j n a' = h a' := funext fun k => if_neg (fun z => e z.1)
theorem cpy_in {h : mM} {a b : Nat} {n k : Int} (hk : 0 ≤ k ∧ k < n) : mCpy h a 0 b 0 n b k = h a k := by
  unfold mCpy
  rw [if_pos ⟨rfl, by omega⟩, show 0 + (k - 0) = k by omega]
theorem Ow.cpy {L : List Nat} {h k : mM} {a b : Nat} {i j n : Int} (p : Ow L h k) (hb : b ∈ L) : Ow L h (mCpy k a i b j n) := fun x hx => by
  have e : x ≠ b := fun z => hx (z ▸ hb)
  rw [cpy_row e, p x hx]
def coL (b : Nat) : List Nat := [b, b + 1, b + 2, b + 3, b + 4, b + 5, b + 6, b + 7, b + 8]
section
variable {xs : List Int} {d : Nat} {c : Kc} {h : mM}
theorem t_takeFrom {b0 b1 : Nat} (hb : (b0 = 116 ∧ b1 = 12) ∨ (b0 = 12 ∧ b1 = 38) ∨ (b0 = 12 ∧ b1 = 59) ∨ (b0 = 12 ∧ b1 = 75) ∨ (b0 = 12 ∧ b1 = 91) ∨ (b0 = 21 ∧ b1 = 12) ∨ (b0 = 59 ∧ b1 = 12) ∨ (b0 = 75 ∧ b1 = 12) ∨ (b0 = 91 ∧ b1 = 12)) (k : CoT b1 c h) (hn : 0 ≤ c 0 0 ∧ c 0 0 ≤ 7) : ∃ h', C xs d 227 0 [mR b0, mR b1] h = some ([], h') ∧ CoT b0 c h' ∧ (∀ p, 0 ≤ p → p < c 0 0 → h' (b0 + 7) p = h (b1 + 7) p) ∧ Ow (coL b0) h h' := by
  rw [c_Co_takeFrom xs d hb, k.n, k.g]
  refine ⟨_, if_y (by omega) (if_y (by omega) (if_y (by omega) (if_y (by omega) (if_y (by omega) (if_y (by omega) (if_y (by omega) rfl)))))), ?_, fun p h1 h2 => ?_, ?_⟩
  · have far : b1 + 8 < b0 ∨ b0 + 8 < b1 := by omega
    unfold CoT
    refine ⟨?_, ?_, fun i h1 h2 => ?_, fun i h1 h2 => ?_, fun i h1 h2 => ?_, fun i h1 h2 => ?_, fun i h1 h2 => ?_, fun i h1 h2 => ?_⟩
    · rw [cpy_row (by omega), cpy_row (by omega), cpy_row (by omega), cpy_row (by omega), cpy_row (by omega), cpy_row (by omega), cpy_row (by omega), up_at, if_neg (by omega), up_eq]
    · rw [cpy_row (by omega), cpy_row (by omega), cpy_row (by omega), cpy_row (by omega), cpy_row (by omega), cpy_row (by omega), cpy_row (by omega), up_eq]
    · rw [cpy_row (by omega), cpy_row (by omega), cpy_row (by omega), cpy_row (by omega), cpy_row (by omega), cpy_row (by omega), cpy_in (by omega), up_ne (by omega), up_ne (by omega)]; exact k.r i h1 h2
    · rw [cpy_row (by omega), cpy_row (by omega), cpy_row (by omega), cpy_row (by omega), cpy_row (by omega), cpy_in (by omega), cpy_row (by omega), up_ne (by omega), up_ne (by omega)]; exact k.p i h1 h2
    · rw [cpy_row (by omega), cpy_row (by omega), cpy_row (by omega), cpy_row (by omega), cpy_in (by omega), cpy_row (by omega), cpy_row (by omega), up_ne (by omega), up_ne (by omega)]; exact k.m i h1 h2
    · rw [cpy_row (by omega), cpy_row (by omega), cpy_row (by omega), cpy_in (by omega), cpy_row (by omega), cpy_row (by omega), cpy_row (by omega), up_ne (by omega), up_ne (by omega)]; exact k.w i h1 h2
    · rw [cpy_row (by omega), cpy_row (by omega), cpy_in (by omega), cpy_row (by omega), cpy_row (by omega), cpy_row (by omega), cpy_row (by omega), up_ne (by omega), up_ne (by omega)]; exact k.l i h1 h2
    · rw [cpy_row (by omega), cpy_in (by omega), cpy_row (by omega), cpy_row (by omega), cpy_row (by omega), cpy_row (by omega), cpy_row (by omega), up_ne (by omega), up_ne (by omega)]; exact k.q i h1 h2
  · have far : b1 + 8 < b0 ∨ b0 + 8 < b1 := by omega
    rw [cpy_in (by omega), cpy_row (by omega), cpy_row (by omega), cpy_row (by omega), cpy_row (by omega), cpy_row (by omega), cpy_row (by omega), up_ne (by omega), up_ne (by omega)]
  · exact ((((((((Ow.rf.up (by simp [coL])).up (by simp [coL])).cpy (by simp [coL])).cpy (by simp [coL])).cpy (by simp [coL])).cpy (by simp [coL])).cpy (by simp [coL])).cpy (by simp [coL])).cpy (by simp [coL])
/-- behind so many evenings -/
def evK (c : Kc) : Nat → Kc
  | 0 => c
  | k + 1 => evC (evK c k) (-1)
theorem evC_0 {aw : Int} : evC c aw 0 0 = c 0 0 := by unfold evC ntC; rw [if_neg (by omega), if_neg (by omega)]; rfl
theorem evC_1 {aw : Int} : evC c aw 1 0 = c 1 0 + 1 := by unfold evC ntC; rw [if_neg (by omega), if_pos rfl]; rfl
theorem evK_n : ∀ k, evK c k 0 0 = c 0 0 := fun k => by
  induction k with
  | zero => rfl
  | succ k ih => rw [evK, evC_0, ih]
theorem evK_g : ∀ k, evK c k 1 0 = c 1 0 + (k : Int) := fun k => by
  induction k with
  | zero => simp [evK]
  | succ k ih => rw [evK, evC_1, ih]; omega
theorem evK_wf (w : WfC c) (hg : c 1 0 ≤ 9999) : ∀ k, k ≤ 1000 → WfC (evK c k) := fun k => by
  induction k with
  | zero => intro _; exact w
  | succ k ih =>
    intro hk
    rw [evK]
    exact evC_wf (ih (by omega)) (by rw [evK_g]; omega)
theorem t_evLoop {n : Nat} (hn : n ≤ 60) (w : WfC c) (hg : c 1 0 ≤ 9999) (k : CoT 21 c h) : ∃ h', X xs d k_T_lookAhead 7 [mR 0, mI (n : Int), mI 0] [] h = some ([], h') ∧ CoT 21 (evK c n) h' ∧ Ow (coL 21) h h' := by
  have key : ∀ (m i : Nat) (g : mM), i + m = n → CoT 21 (evK c i) g → Ow (coL 21) h g → ∃ h', X xs d k_T_lookAhead 7 [mR 0, mI (n : Int), mI (i : Int)] [] g = some ([], h') ∧ CoT 21 (evK c n) h' ∧ Ow (coL 21) h h' := by
    intro m
    induction m with
    | zero =>
      intro i g hi kg og
      obtain rfl : i = n := by omega
      rw [e_T_lookAhead_7, if_neg (by omega)]
      exact ⟨g, rfl, kg, og⟩
    | succ m ih =>
      intro i g hi kg og
      obtain ⟨g2, r1, r2, r3⟩ := t_passEvening (xs := xs) (d := d) (b := 21) (by omega) kg (evK_wf w hg i (by omega)) (by rw [evK_g]; omega) (-1) (by omega)
      obtain ⟨h', s1, s2, s3⟩ := ih (i + 1) g2 (by omega) r2 (og.tr (N := coL 21) r3 (fun a z => z) (by simp [coL]))
      refine ⟨h', ?_, s2, s3⟩
      rw [e_T_lookAhead_7, if_pos (by omega)]
      refine cI_of (r1) ?_
      refine if_y (by omega) ?_
      exact s1
  exact key n 0 h (by omega) k Ow.rf
theorem t_lookAhead {n : Nat} (hn : n ≤ 60) (w : WfC c) (hg : c 1 0 ≤ 9999) (k : CoT 12 c h) : ∃ h', C xs d 33 0 [mR 0, mI (n : Int)] h = some ([], h') ∧ CoT 21 (evK c n) h' ∧ Ow (coL 21) h h' := by
  obtain ⟨g, r1, r2, -, r4⟩ := t_takeFrom (xs := xs) (d := d) (b0 := 21) (b1 := 12) (by omega) k w.1
  obtain ⟨h', s1, s2, s3⟩ := t_evLoop (xs := xs) (d := d) hn w hg r2
  refine ⟨h', ?_, s2, r4.tr (N := coL 21) s3 (fun a z => z) (fun a z => z)⟩
  rw [c_T_lookAhead]
  refine cV_of (r1) ?_
  exact s1
/-- the people's cells kept at a place -/
def kpM (h : mM) (to : Int) : mM := rowW h 131 to 46 (fun k => h 131 (k - to))
def rsM (h : mM) (fr : Int) : mM := rowU h 131 46 (fun k => h 131 (fr + k))
theorem m_keeps {to : Int} (ht : 46 ≤ to ∧ to ≤ 2300) : C xs d 159 0 [mR 130, mI to] h = some ([], kpM h to) := by
  rw [c_M_keeps]
  have st : ∀ i : Nat, i < 46 → X xs d k_M_keeps 2 [mR 130, mI to, mI (i : Int)] [] (rowW h 131 to i (fun k => h 131 (k - to))) = X xs d k_M_keeps 2 [mR 130, mI to, mI ((i + 1 : Nat) : Int)] [] (rowW h 131 to ((i + 1 : Nat) : Int) (fun k => h 131 (k - to))) := by
    intro i hi
    rw [e_M_keeps_2, rowW_out (show ¬ (to ≤ (i : Int) ∧ (i : Int) < to + (i : Int)) by omega)]
    refine if_y (by omega) ?_
    refine if_y (by omega) ?_
    refine if_y (by omega) ?_
    refine if_y (by omega) ?_
    refine if_y (by omega) ?_
    rw [rowW_up (by omega) (by show _ = h 131 (to + (i : Int) - to); congr 1; omega)]
    rfl
  refine (congrArg (fun g => X xs d k_M_keeps 2 [mR 130, mI to, mI 0] [] g) (rowW_0 (h := h) (a := 131) (lo := to) (f := fun k => h 131 (k - to))).symm).trans ?_
  refine (run_to (fun i : Nat => X xs d k_M_keeps 2 [mR 130, mI to, mI (i : Int)] [] (rowW h 131 to i (fun k => h 131 (k - to)))) st).trans ?_
  show X xs d k_M_keeps 2 [mR 130, mI to, mI 46] [] (rowW h 131 to 46 _) = _
  rw [e_M_keeps_2, if_neg (by omega)]
  rfl
theorem m_restores {fr : Int} (ht : 46 ≤ fr ∧ fr ≤ 2300) : C xs d 160 0 [mR 130, mI fr] h = some ([], rsM h fr) := by
  rw [c_M_restores]
  have st : ∀ i : Nat, i < 46 → X xs d k_M_restores 2 [mR 130, mI fr, mI (i : Int)] [] (rowU h 131 i (fun k => h 131 (fr + k))) = X xs d k_M_restores 2 [mR 130, mI fr, mI ((i + 1 : Nat) : Int)] [] (rowU h 131 ((i + 1 : Nat) : Int) (fun k => h 131 (fr + k))) := by
    intro i hi
    rw [e_M_restores_2, rowU_out (show ¬ (0 ≤ fr + (i : Int) ∧ fr + (i : Int) < (i : Int)) by omega)]
    refine if_y (by omega) ?_
    refine if_y (by omega) ?_
    refine if_y (by omega) ?_
    refine if_y (by omega) ?_
    refine if_y (by omega) ?_
    rw [rowU_up (by omega) rfl]
    rfl
  refine (congrArg (fun g => X xs d k_M_restores 2 [mR 130, mI fr, mI 0] [] g) (rowU_0 (h := h) (a := 131) (f := fun k => h 131 (fr + k))).symm).trans ?_
  refine (run_to (fun i : Nat => X xs d k_M_restores 2 [mR 130, mI fr, mI (i : Int)] [] (rowU h 131 i (fun k => h 131 (fr + k)))) st).trans ?_
  show X xs d k_M_restores 2 [mR 130, mI fr, mI 46] [] (rowU h 131 46 _) = _
  rw [e_M_restores_2, if_neg (by omega)]
  rfl
theorem kpM_co (k : CoM c h) (hn : c 0 0 ≤ 7) {to : Int} (ht : 46 ≤ to) : CoM c (kpM h to) := by
  have e : ∀ i, i < 46 → kpM h to 131 i = h 131 i := fun i hi => rowW_out (by omega)
  obtain ⟨k1, k2, k3, k4, k5, k6, k7, k8⟩ := k
  exact ⟨(e _ (by omega)).trans k1, (e _ (by omega)).trans k2, fun i a b => (e _ (by omega)).trans (k3 i a b), fun i a b => (e _ (by omega)).trans (k4 i a b), fun i a b => (e _ (by omega)).trans (k5 i a b), fun i a b => (e _ (by omega)).trans (k6 i a b), fun i a b => (e _ (by omega)).trans (k7 i a b), fun i a b => (e _ (by omega)).trans (k8 i a b)⟩
/-- all is back, but for places of work -/
def Lk (h h' : mM) : Prop := (∀ a, a ≠ 131 → a ≠ 139 → h' a = h a) ∧ ∀ k, 0 ≤ k → k < 1656 → h' 131 k = h 131 k
theorem Lk.tr {h k g : mM} (p : Lk h k) (q : Lk k g) : Lk h g := ⟨fun a h1 h2 => (q.1 a h1 h2).trans (p.1 a h1 h2), fun j h1 h2 => (q.2 j h1 h2).trans (p.2 j h1 h2)⟩
theorem Lk.co {h' : mM} (p : Lk h h') (k : CoM c h) (hn : c 0 0 ≤ 7) : CoM c h' := by
  have e : ∀ i, 0 ≤ i → i < 1656 → h' 131 i = h 131 i := p.2
  obtain ⟨k1, k2, k3, k4, k5, k6, k7, k8⟩ := k
  exact ⟨(e _ (by omega) (by omega)).trans k1, (e _ (by omega) (by omega)).trans k2, fun i a b => (e _ (by omega) (by omega)).trans (k3 i a b), fun i a b => (e _ (by omega) (by omega)).trans (k4 i a b), fun i a b => (e _ (by omega) (by omega)).trans (k5 i a b), fun i a b => (e _ (by omega) (by omega)).trans (k6 i a b), fun i a b => (e _ (by omega) (by omega)).trans (k7 i a b), fun i a b => (e _ (by omega) (by omega)).trans (k8 i a b)⟩
theorem Lk.keep {h' : mM} (p : Lk h h') : Keep h h' := ⟨fun a z => p.1 a (fun e => by subst e; exact absurd z (by decide)) (fun e => by subst e; exact absurd z (by decide)), fun j _ => by rw [p.1 0 (by omega) (by omega)], fun j _ => by rw [p.1 130 (by omega) (by omega)], fun j hj => p.2 j (by omega) (by omega)⟩
theorem Lk.of {g : mM} {to : Int} (ht : 2070 ≤ to) (o : Oc (kpM h to) g) : Lk h (rsM g to) := by
  refine ⟨fun a h1 h2 => ?_, fun k h1 h2 => ?_⟩
  · unfold rsM
    rw [rowU_ne h1, o.1 a h1 h2]
    exact rowW_ne h1
  · unfold rsM
    by_cases q : k < 46
    · rw [rowU_in ⟨h1, q⟩, o.2 _ (by omega)]
      unfold kpM
      rw [rowW_in (by omega), show to + k - to = k by omega]
    · rw [rowU_out (by omega), o.2 k (by omega)]
      exact rowW_out (by omega)
theorem m_eveningsGo {n : Nat} (hn : n ≤ 300) (w : WfC c) (hg : c 1 0 ≤ 9999) (k : CoM c h) : ∃ h', C xs d 164 0 [mR 130, mI (n : Int)] h = some ([], h') ∧ CoM (evK c n) h' ∧ Oc h h' := by
  rw [c_M_eveningsGo]
  have key : ∀ (m i : Nat) (g : mM), i + m = n → CoM (evK c i) g → Oc h g → ∃ h', X xs d k_M_eveningsGo 2 [mR 130, mI (n : Int), mI (i : Int)] [] g = some ([], h') ∧ CoM (evK c n) h' ∧ Oc h h' := by
    intro m
    induction m with
    | zero =>
      intro i g hi kg og
      obtain rfl : i = n := by omega
      rw [e_M_eveningsGo_2, if_neg (by omega)]
      exact ⟨g, rfl, kg, og⟩
    | succ m ih =>
      intro i g hi kg og
      obtain ⟨g2, r1, r2, r3⟩ := m_eveningGoes (xs := xs) (d := d) kg (evK_wf w hg i (by omega)) (by rw [evK_g]; omega) (aw := -1) (Or.inl rfl)
      obtain ⟨h', s1, s2, s3⟩ := ih (i + 1) g2 (by omega) r2 (og.tr r3)
      refine ⟨h', ?_, s2, s3⟩
      rw [e_M_eveningsGo_2, if_pos (by omega)]
      refine cI_of (r1) ?_
      refine if_y (by omega) ?_
      exact s1
  exact key n 0 h (by omega) k Oc.rf
/-- the class changed free rows, the reference is as it was -/
theorem QI.mkA {iT iM : Nat} {a : List mv} (R : Rel h) (k0 : SlotR 12 30 c h 0 0) (v s : Int) {g1 g2 : mM} {L : List Nat} (hT : C xs d iT 0 (mR 0 :: a) h = some ([mI v], upM g1 0 0 s)) (o1 : Ow L h g1) (hL : ∀ a ∈ L, keptL.elem a = false ∧ a ≠ 0 ∧ a ≠ 130 ∧ a ≠ 131 ∧ (a < 12 ∨ 18 < a)) (hM : C xs d iM 0 (mR 130 :: a) (upM g1 0 0 s) = some ([mI v], upM g2 130 2 s)) (o2 : Lk (upM g1 0 0 s) g2) : QI xs d h iT iM a := by
  have k1 : CoT 12 c g1 := k0.1.mv (fun b h1 h2 => o1 b (fun z => by have := (hL b z).2.2.2.2; omega))
  have kM : CoM c (upM g1 0 0 s) := (CoM.z.mp k0.2.1).mv (by rw [up_row (by omega), o1 131 (fun z => (hL 131 z).2.2.2.1 rfl)])
  exact QI.mkU R k0 v s hT k1 (Keep.ow o1 (fun a z => ⟨(hL a z).1, (hL a z).2.1, (hL a z).2.2.1, (hL a z).2.2.2.1⟩)) hM (o2.co kM k0.2.2.1.1.2) o2.keep (fun b h1 h2 => by rw [o2.1 b (by omega) (by omega), up_row (by omega)]) (o2.1 0 (by omega) (by omega)) k0.2.2.1 k0.2.2.2.1 rfl
theorem coL_21 : ∀ a ∈ coL 21, keptL.elem a = false ∧ a ≠ 0 ∧ a ≠ 130 ∧ a ≠ 131 ∧ (a < 12 ∨ 18 < a) := by decide
end
section
variable {xs : List Int} {d : Nat} {h : mM}
theorem q_eveningIn (R : Rel h) (x y : Int) : QI xs d h 29 165 [mI x, mI y] := by
  obtain ⟨c, k⟩ := R.co
  have kT := k.1
  have kM := CoM.z.mp k.2.1
  have w := k.2.2.1
  have hg := k.2.2.2.1
  have hn := w.1
  by_cases q : 0 ≤ x ∧ x < c 0 0
  rotate_left
  · refine QI.ans R 1 (-1) ?_ ?_
    · rw [c_T_eveningIn]
      refine cI_of (t_has12 kT x) ?_
      rw [if_pos (b2i_0.mpr q)]
      refine cI_of (c_T_refuse xs d _ h) ?_
      rfl
    · rw [c_M_eveningIn]
      refine cI_of (m_isPerson (kM.z0 1) x) ?_
      rw [if_pos (b2i_0.mpr q)]
      refine cI_of (c_M_refuse xs d _ _) ?_
      rfl
  by_cases q2 : 0 ≤ y ∧ y ≤ 60
  rotate_left
  · refine QI.ans R 1 (-1) ?_ ?_
    · rw [c_T_eveningIn]
      refine cI_of (t_has12 kT x) ?_
      rw [if_neg (fun z => b2i_0.mp z q)]
      refine cI_of (t_within) ?_
      rw [if_pos (b2i_0.mpr q2)]
      refine cI_of (c_T_refuse xs d _ h) ?_
      rfl
    · rw [c_M_eveningIn]
      refine cI_of (m_isPerson (kM.z0 1) x) ?_
      rw [if_neg (fun z => b2i_0.mp z q)]
      refine cI_of (m_isFrom) ?_
      rw [if_pos (b2i_0.mpr q2)]
      refine cI_of (c_M_refuse xs d _ _) ?_
      rfl
  obtain ⟨n, rfl⟩ : ∃ n : Nat, y = (n : Int) := ⟨y.toNat, by omega⟩
  obtain ⟨g1, r1, r2, r3⟩ := t_lookAhead (xs := xs) (d := d) (n := n) (by omega) w hg kT
  have kM1 : CoM c (upM g1 0 0 0) := kM.mv (by rw [up_row (by omega), r3 131 (by decide)])
  obtain ⟨g2, s1, s2, s3⟩ := m_eveningsGo (xs := xs) (d := d) (n := n) (by omega) w hg (kpM_co kM1 hn.2 (to := 2070) (by omega))
  refine QI.mkA R k (evK c n 5 x) 0 (g1 := g1) (g2 := rsM g2 2070) ?_ r3 coL_21 ?_ (Lk.of (by omega) s3)
  · rw [c_T_eveningIn]
    refine cI_of (t_has12 kT x) ?_
    rw [if_neg (fun z => b2i_0.mp z q)]
    refine cI_of (t_within) ?_
    rw [if_neg (fun z => b2i_0.mp z q2)]
    refine cV_of (r1) ?_
    refine if_y (by omega) ?_
    rw [show g1 25 x = evK c n 5 x from r2.w x q.1 (by rw [evK_n]; exact q.2)]
    refine cI_of (c_T_answer xs d _ _) ?_
    rfl
  · rw [c_M_eveningIn]
    refine cI_of (m_isPerson kM1 x) ?_
    rw [if_neg (fun z => b2i_0.mp z q)]
    refine cI_of (m_isFrom) ?_
    rw [if_neg (fun z => b2i_0.mp z q2)]
    refine cV_of (m_keeps (by omega)) ?_
    refine cV_of (s1) ?_
    refine cI_of (m_personOf (by omega) (by omega)) ?_
    rw [s2.w x q.1 (by rw [evK_n]; exact q.2)]
    refine cV_of (m_restores (by omega)) ?_
    refine cI_of (c_M_gives xs d _ _) ?_
    rfl
theorem q_litIn (R : Rel h) (y : Int) : QI xs d h 30 166 [mI y] := by
  obtain ⟨c, k⟩ := R.co
  have kT := k.1
  have kM := CoM.z.mp k.2.1
  have w := k.2.2.1
  have hg := k.2.2.2.1
  have hn := w.1
  by_cases q2 : 0 ≤ y ∧ y ≤ 60
  rotate_left
  · refine QI.ans R 1 (-1) ?_ ?_
    · rw [c_T_litIn]
      refine cI_of (t_within) ?_
      rw [if_pos (b2i_0.mpr q2)]
      refine cI_of (c_T_refuse xs d _ h) ?_
      rfl
    · rw [c_M_litIn]
      refine cI_of (m_isFrom) ?_
      rw [if_pos (b2i_0.mpr q2)]
      refine cI_of (c_M_refuse xs d _ _) ?_
      rfl
  obtain ⟨n, rfl⟩ : ∃ n : Nat, y = (n : Int) := ⟨y.toNat, by omega⟩
  obtain ⟨g1, r1, r2, r3⟩ := t_lookAhead (xs := xs) (d := d) (n := n) (by omega) w hg kT
  have kM1 : CoM c (upM g1 0 0 0) := kM.mv (by rw [up_row (by omega), r3 131 (by decide)])
  obtain ⟨g2, s1, s2, s3⟩ := m_eveningsGo (xs := xs) (d := d) (n := n) (by omega) w hg (kpM_co kM1 hn.2 (to := 2070) (by omega))
  have wn := evK_wf w hg n (by omega)
  refine QI.mkA R k ((sq (litB (evK c n)) (evK c n 0 0).toNat : Nat) : Int) 0 (g1 := g1) (g2 := rsM g2 2070) ?_ r3 coL_21 ?_ (Lk.of (by omega) s3)
  · rw [c_T_litIn]
    refine cI_of (t_within) ?_
    rw [if_neg (fun z => b2i_0.mp z q2)]
    refine cV_of (r1) ?_
    refine cI_of (t_litSet (by omega) r2 wn) ?_
    refine cI_of (c_T_answer xs d _ _) ?_
    rfl
  · rw [c_M_litIn]
    refine cI_of (m_isFrom) ?_
    rw [if_neg (fun z => b2i_0.mp z q2)]
    refine cV_of (m_keeps (by omega)) ?_
    refine cV_of (s1) ?_
    refine cI_of (m_areLit s2 wn) ?_
    refine cV_of (m_restores (by omega)) ?_
    refine cI_of (c_M_gives xs d _ _) ?_
    rfl
theorem m_litBehind {c : Kc} (k : CoM c h) (w : WfC c) (hg : c 1 0 ≤ 9999) {aw : Int} (haw : aw = -1 ∨ 0 ≤ aw ∧ aw < c 0 0) : ∃ h', C xs d 182 0 [mR 130, mI aw] h = some ([mI ((sq (litB (evC c aw)) (evC c aw 0 0).toNat : Nat) : Int)], h') ∧ Lk h h' := by
  obtain ⟨g2, s1, s2, s3⟩ := m_eveningGoes (xs := xs) (d := d) (kpM_co k w.1.2 (to := 2070) (by omega)) w (by omega) haw
  refine ⟨rsM g2 2070, ?_, Lk.of (by omega) s3⟩
  rw [c_M_litBehind]
  refine cV_of (m_keeps (by omega)) ?_
  refine cI_of (s1) ?_
  refine cI_of (m_areLit s2 (evC_wf w (by omega))) ?_
  refine cV_of (m_restores (by omega)) ?_
  rfl
theorem q_misses (R : Rel h) (x : Int) : QI xs d h 43 183 [mI x] := by
  obtain ⟨c, k⟩ := R.co
  have kT := k.1
  have kM := CoM.z.mp k.2.1
  have w := k.2.2.1
  have hg := k.2.2.2.1
  have hn := w.1
  by_cases q : 0 ≤ x ∧ x < c 0 0
  rotate_left
  · refine QI.ans R 1 (-1) ?_ ?_
    · rw [c_T_misses]
      refine cI_of (t_has12 kT x) ?_
      rw [if_pos (b2i_0.mpr q)]
      refine cI_of (c_T_refuse xs d _ h) ?_
      rfl
    · rw [c_M_misses]
      refine cI_of (m_isPerson (kM.z0 1) x) ?_
      rw [if_pos (b2i_0.mpr q)]
      refine cI_of (c_M_refuse xs d _ _) ?_
      rfl
  obtain ⟨g1, r1, r2, r3⟩ := t_lookAhead (xs := xs) (d := d) (n := 1) (by omega) w hg kT
  have kT1 : CoT 12 c g1 := kT.mv (fun a h1 h2 => r3 a (by simp [coL]; omega))
  obtain ⟨g3, u1, u2, -, u4⟩ := t_takeFrom (xs := xs) (d := d) (b0 := 21) (b1 := 12) (by omega) kT1 hn
  obtain ⟨g4, v1, v2, v3⟩ := t_passEvening (xs := xs) (d := d) (b := 21) (by omega) u2 w (by omega) x (by omega)
  have o4 : Ow (coL 21) h g4 := (r3.tr (N := coL 21) u4 (fun a z => z) (fun a z => z)).tr (N := coL 21) v3 (fun a z => z) (by simp [coL])
  have kM1 : CoM c (upM g4 0 0 0) := kM.mv (by rw [up_row (by omega), o4 131 (by decide)])
  obtain ⟨g5, s1, s2⟩ := m_litBehind (xs := xs) (d := d) kM1 w hg (aw := -1) (Or.inl rfl)
  obtain ⟨g6, p1, p2⟩ := m_litBehind (xs := xs) (d := d) (s2.co kM1 hn.2) w hg (aw := x) (Or.inr q)
  have wn := evC_wf w (by omega) (aw := -1)
  have wx := evC_wf w (by omega) (aw := x)
  refine QI.mkA R k (fAnd ((sq (litB (evC c (-1))) (evC c (-1) 0 0).toNat : Nat) : Int) (fXor ((sq (litB (evC c x)) (evC c x 0 0).toNat : Nat) : Int) (-1))) 0 (g1 := g4) (g2 := g6) ?_ o4 coL_21 ?_ (s2.tr p2)
  · rw [c_T_misses]
    refine cI_of (t_has12 kT x) ?_
    rw [if_neg (fun z => b2i_0.mp z q)]
    refine cV_of (r1) ?_
    refine cI_of (t_litSet (by omega) r2 wn) ?_
    refine cV_of (u1) ?_
    refine cI_of (v1) ?_
    refine cI_of (t_litSet (by omega) v2 wx) ?_
    refine cI_of (c_T_answer xs d _ _) ?_
    rfl
  · rw [c_M_misses]
    refine cI_of (m_isPerson kM1 x) ?_
    rw [if_neg (fun z => b2i_0.mp z q)]
    refine cI_of (s1) ?_
    refine cI_of (p1) ?_
    refine cI_of (c_M_gives xs d _ _) ?_
    rfl
end
