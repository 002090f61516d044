/-! EQUIV 22: the game of the reference; game and moveOf -/
section
variable {xs : List Int} {d : Nat} {c : Kc} {h : mM}
abbrev lvA (L : Nat) : Int := 2116 + 46 * (L : Int)
def SlM (L : Nat) (c : Kc) (h : mM) : Prop := CoM c (fun _ k => h 131 (lvA L + k))
theorem m_levelAt {L : Nat} (hL : L ≤ 4) : C xs d 158 0 [mI (L : Int)] h = some ([mI (lvA L)], h) := by
  rw [c_M_levelAt]
  refine if_y (by omega) ?_
  refine if_y (by omega) ?_
  rfl
theorem SlM.mv {L : Nat} {h' : mM} (s : SlM L c h) (hn : c 0 0 ≤ 7) (e : ∀ k, lvA L ≤ k → k < lvA L + 46 → h' 131 k = h 131 k) : SlM L c h' := by
  obtain ⟨k1, k2, k3, k4, k5, k6, k7, k8⟩ := s
  exact ⟨(e _ (by omega) (by omega)).trans k1, (e _ (by omega) (by omega)).trans k2, fun i a b => (e _ (by omega) (by omega)).trans (k3 i a b), fun i a b => (e _ (by omega) (by omega)).trans (k4 i a b), fun i a b => (e _ (by omega) (by omega)).trans (k5 i a b), fun i a b => (e _ (by omega) (by omega)).trans (k6 i a b), fun i a b => (e _ (by omega) (by omega)).trans (k7 i a b), fun i a b => (e _ (by omega) (by omega)).trans (k8 i a b)⟩
theorem SlM.rs {L : Nat} (s : SlM L c h) (hn : c 0 0 ≤ 7) : CoM c (rsM h (lvA L)) := by
  have e : ∀ k, 0 ≤ k → k < 46 → rsM h (lvA L) 131 k = h 131 (lvA L + k) := fun k h1 h2 => rowU_in ⟨h1, h2⟩
  obtain ⟨k1, k2, k3, k4, k5, k6, k7, k8⟩ := s
  exact ⟨(e _ (by omega) (by omega)).trans k1, (e _ (by omega) (by omega)).trans k2, fun i a b => (e _ (by omega) (by omega)).trans (k3 i a b), fun i a b => (e _ (by omega) (by omega)).trans (k4 i a b), fun i a b => (e _ (by omega) (by omega)).trans (k5 i a b), fun i a b => (e _ (by omega) (by omega)).trans (k6 i a b), fun i a b => (e _ (by omega) (by omega)).trans (k7 i a b), fun i a b => (e _ (by omega) (by omega)).trans (k8 i a b)⟩
theorem CoM.kp {L : Nat} (k : CoM c h) (hn : c 0 0 ≤ 7) : SlM L c (kpM h (lvA L)) := by
  have e : ∀ k, 0 ≤ k → k < 46 → kpM h (lvA L) 131 (lvA L + k) = h 131 k := fun k h1 h2 => by
    unfold kpM
    rw [rowW_in (by omega), show lvA L + k - lvA L = k by omega]
  obtain ⟨k1, k2, k3, k4, k5, k6, k7, k8⟩ := k
  exact ⟨(e _ (by omega) (by omega)).trans k1, (e _ (by omega) (by omega)).trans k2, fun i a b => (e _ (by omega) (by omega)).trans (k3 i a b), fun i a b => (e _ (by omega) (by omega)).trans (k4 i a b), fun i a b => (e _ (by omega) (by omega)).trans (k5 i a b), fun i a b => (e _ (by omega) (by omega)).trans (k6 i a b), fun i a b => (e _ (by omega) (by omega)).trans (k7 i a b), fun i a b => (e _ (by omega) (by omega)).trans (k8 i a b)⟩
/-- all stays but the places of work from a level on (its marks from K on) -/
def Gf (L K : Nat) (h h' : mM) : Prop := (∀ a, a ≠ 131 → a ≠ 139 → a ≠ 147 → a ≠ 148 → a ≠ 149 → h' a = h a) ∧ (∀ k, 46 ≤ k → k < lvA (L + 1) → h' 131 k = h 131 k) ∧ ∀ j, j < (K : Int) → h' 147 j = h 147 j ∧ h' 148 j = h 148 j ∧ h' 149 j = h 149 j
theorem Gf.rf {L K : Nat} : Gf L K h h := ⟨fun _ _ _ _ _ _ => rfl, fun _ _ _ => rfl, fun _ _ => ⟨rfl, rfl, rfl⟩⟩
theorem Gf.tr {L K : Nat} {k g : mM} (p : Gf L K h k) (q : Gf L K k g) : Gf L K h g := ⟨fun a h1 h2 h3 h4 h5 => (q.1 a h1 h2 h3 h4 h5).trans (p.1 a h1 h2 h3 h4 h5), fun j h1 h2 => (q.2.1 j h1 h2).trans (p.2.1 j h1 h2), fun j hj => ⟨(q.2.2 j hj).1.trans (p.2.2 j hj).1, (q.2.2 j hj).2.1.trans (p.2.2 j hj).2.1, (q.2.2 j hj).2.2.trans (p.2.2 j hj).2.2⟩⟩
theorem Gf.wk {L K L' K' : Nat} {g : mM} (p : Gf L K h g) (hl : L' ≤ L) (hk : K' ≤ K) : Gf L' K' h g := ⟨p.1, fun k h1 h2 => p.2.1 k h1 (by unfold lvA at h2 ⊢; omega), fun j hj => p.2.2 j (by omega)⟩
theorem Gf.oc {L K : Nat} {k g : mM} (p : Gf L K h k) (o : Oc k g) : Gf L K h g := ⟨fun a h1 h2 h3 h4 h5 => (o.1 a h1 h2).trans (p.1 a h1 h2 h3 h4 h5), fun j h1 h2 => (o.2 j (Or.inl h1)).trans (p.2.1 j h1 h2), fun j hj => by rw [o.1 147 (by omega) (by omega), o.1 148 (by omega) (by omega), o.1 149 (by omega) (by omega)]; exact p.2.2 j hj⟩
theorem Gf.rs {L K : Nat} {k : mM} (p : Gf L K h k) (fr : Int) : Gf L K h (rsM k fr) := ⟨fun a h1 h2 h3 h4 h5 => by rw [rsM, rowU_ne h1]; exact p.1 a h1 h2 h3 h4 h5, fun j h1 h2 => by rw [rsM, rowU_out (by omega)]; exact p.2.1 j h1 h2, fun j hj => by rw [rsM, rowU_ne (by omega), rowU_ne (by omega), rowU_ne (by omega)]; exact p.2.2 j hj⟩
theorem Gf.kp {L K : Nat} {k : mM} (p : Gf L K h k) : Gf L K h (kpM k (lvA (L + 1))) := ⟨fun a h1 h2 h3 h4 h5 => by rw [kpM, rowW_ne h1]; exact p.1 a h1 h2 h3 h4 h5, fun j h1 h2 => by rw [kpM, rowW_out (by omega)]; exact p.2.1 j h1 h2, fun j hj => by rw [kpM, rowW_ne (by omega), rowW_ne (by omega), rowW_ne (by omega)]; exact p.2.2 j hj⟩
theorem Gf.up {L K : Nat} {k : mM} (p : Gf L K h k) {b : Nat} (hb : b = 147 ∨ b = 148 ∨ b = 149) {i v : Int} (hi : (K : Int) ≤ i) : Gf L K h (upM k b i v) := ⟨fun a h1 h2 h3 h4 h5 => by rw [up_row (by omega)]; exact p.1 a h1 h2 h3 h4 h5, fun j h1 h2 => by rw [up_ne (by omega)]; exact p.2.1 j h1 h2, fun j hj => by
  obtain ⟨a, b', e⟩ := p.2.2 j hj
  rcases hb with rfl | rfl | rfl
  · rw [up_at, if_neg (by omega), up_ne (by omega), up_ne (by omega)]; exact ⟨a, b', e⟩
  · rw [up_at, if_neg (by omega), up_ne (by omega), up_ne (by omega)]; exact ⟨a, b', e⟩
  · rw [up_at, if_neg (by omega), up_ne (by omega), up_ne (by omega)]; exact ⟨a, b', e⟩⟩
/-- what a deed is worth is settled -/
def stM (h : mM) (L : Nat) (v : Int) : mM := if h 149 (L : Int) = -1 ∨ (if L % 2 = 0 then h 148 (L : Int) < v else v < h 148 (L : Int)) then upM (upM h 148 (L : Int) v) 149 (L : Int) (h 147 (L : Int)) else h
theorem m_settlesAt {L : Nat} (hL : L ≤ 4) (v : Int) : C xs d 203 0 [mR 130, mI (L : Int), mI v] h = some ([], stM h L v) := by
  unfold stM
  rw [c_M_settlesAt]
  refine if_y (by omega) ?_
  by_cases z : h 149 (L : Int) = -1
  · rw [if_pos z, if_pos (Or.inl z), e_M_settlesAt_9]
    refine if_n (by omega) ?_
    refine if_y (by omega) ?_
    refine if_y (by omega) ?_
    refine if_y (by omega) ?_
    rfl
  · rw [if_neg z, e_M_settlesAt_9]
    refine if_y (by omega) ?_
    refine if_y (by omega) ?_
    by_cases e : L % 2 = 0
    · refine if_y (by omega) ?_
      refine if_y (by omega) ?_
      by_cases u : h 148 (L : Int) < v
      · refine if_y (u) ?_
        refine if_y (by omega) ?_
        refine if_y (by omega) ?_
        refine if_y (by omega) ?_
        rw [if_pos (Or.inr (by rw [if_pos e]; exact u))]
      · refine if_n (u) ?_
        rw [if_neg (fun y => y.elim z (fun q => by rw [if_pos e] at q; exact u q))]
    · refine if_n (by omega) ?_
      refine if_y (by omega) ?_
      by_cases u : v < h 148 (L : Int)
      · refine if_y (u) ?_
        refine if_y (by omega) ?_
        refine if_y (by omega) ?_
        refine if_y (by omega) ?_
        rw [if_pos (Or.inr (by rw [if_neg e]; exact u))]
      · refine if_n (u) ?_
        rw [if_neg (fun y => y.elim z (fun q => by rw [if_neg e] at q; exact u q))]
theorem Gf.st {L K : Nat} {k : mM} (q : Gf K L h k) {v : Int} : Gf K L h (stM k L v) := by
  unfold stM
  by_cases z : k 149 (L : Int) = -1 ∨ (if L % 2 = 0 then k 148 (L : Int) < v else v < k 148 (L : Int))
  · rw [if_pos z]
    exact (q.up (b := 148) (by omega) (Int.le_refl _)).up (b := 149) (by omega) (Int.le_refl _)
  · rw [if_neg z]
    exact q
theorem stM_e {L : Nat} (ev : L % 2 = 0) (v : Int) : stM h L v = if h 149 (L : Int) = -1 ∨ h 148 (L : Int) < v then upM (upM h 148 (L : Int) v) 149 (L : Int) (h 147 (L : Int)) else h := by
  unfold stM
  have : (h 149 (L : Int) = -1 ∨ (if L % 2 = 0 then h 148 (L : Int) < v else v < h 148 (L : Int))) ↔ (h 149 (L : Int) = -1 ∨ h 148 (L : Int) < v) := by rw [if_pos ev]
  by_cases z : h 149 (L : Int) = -1 ∨ h 148 (L : Int) < v
  · rw [if_pos (this.mpr z), if_pos z]
  · rw [if_neg (fun y => z (this.mp y)), if_neg z]
theorem stM_o {L : Nat} (od : ¬ L % 2 = 0) (v : Int) : stM h L v = if h 149 (L : Int) = -1 ∨ v < h 148 (L : Int) then upM (upM h 148 (L : Int) v) 149 (L : Int) (h 147 (L : Int)) else h := by
  unfold stM
  have : (h 149 (L : Int) = -1 ∨ (if L % 2 = 0 then h 148 (L : Int) < v else v < h 148 (L : Int))) ↔ (h 149 (L : Int) = -1 ∨ v < h 148 (L : Int)) := by rw [if_neg od]
  by_cases z : h 149 (L : Int) = -1 ∨ v < h 148 (L : Int)
  · rw [if_pos (this.mpr z), if_pos z]
  · rw [if_neg (fun y => z (this.mp y)), if_neg z]
theorem stM_7 {L : Nat} (v : Int) : stM h L v 147 = h 147 := by
  unfold stM
  by_cases z : h 149 (L : Int) = -1 ∨ (if L % 2 = 0 then h 148 (L : Int) < v else v < h 148 (L : Int))
  · rw [if_pos z, up_row (by omega), up_row (by omega)]
  · rw [if_neg z]
/-- behind a deed the rest is gone through -/
def EvP (xs : List Int) (d turns t L : Nat) : Prop := ∀ (c : Kc) (h : mM) (x3 x4 : Int), CoM c h → WfC c → ∃ g x3' x4', X xs d k_M_playing 79 [mR 130, mI (turns : Int), mI (L : Int), mI x3, mI x4] [] h = X xs d k_M_playing 11 [mR 130, mI (turns : Int), mI (L : Int), x3', x4'] [] (stM g L (gv t (decide (L % 2 = 1)) c)) ∧ Gf L (L + 1) h g
/-- the best deed of a butler, as the reference marks it -/
def bdG (t : Nat) (c : Kc) : Int := if mxF c (fnG t c) (c 0 0).toNat < gv t false c then c 0 0 else agF c (fnG t c) (c 0 0).toNat
def MnP (xs : List Int) (d turns t L : Nat) : Prop := ∀ (c : Kc) (h : mM) (x3 x4 : mv), SlM L c h → WfC c → h 147 (L : Int) = -1 → h 149 (L : Int) = -1 → ∃ g x3' x4', X xs d k_M_playing 11 [mR 130, mI (turns : Int), mI (L : Int), x3, x4] [] h = X xs d k_M_playing 11 [mR 130, mI (turns : Int), mI (L : Int), x3', x4'] [] g ∧ g 147 (L : Int) = c 0 0 ∧ g 148 (L : Int) = gv (t + 1) (decide (L % 2 = 0)) c ∧ (L % 2 = 0 → g 149 (L : Int) = bdG t c) ∧ Gf L L h g
theorem agF_bd {c : Kc} {f : Nat → Int} : ∀ n, -1 ≤ agF c f n ∧ agF c f n < n
  | 0 => ⟨Int.le_refl _, by rw [agF]; omega⟩
  | n + 1 => by
    have := agF_bd (c := c) (f := f) n
    rw [agF]
    split <;> omega
theorem agF_iff {c : Kc} {f : Nat → Int} (hf : ∀ p, canD c p → 0 ≤ f p) : ∀ n, (mxF c f n = -1 ∧ agF c f n = -1) ∨ (0 ≤ mxF c f n ∧ 0 ≤ agF c f n)
  | 0 => Or.inl ⟨rfl, rfl⟩
  | n + 1 => by
    have := agF_iff hf n
    rw [agF, mxF]
    by_cases z : canD c n ∧ mxF c f n < f n
    · have := hf n z.1
      rw [if_pos z, if_pos z]
      exact Or.inr ⟨this, by omega⟩
    · rw [if_neg z, if_neg z]
      exact this
/-- the start of a turn at a level, up to the deed -/
theorem m_turn {turns L : Nat} (hL : L ≤ 3) {p : Nat} {x3 x4 : mv} (s : SlM L c h) (w : WfC c) (hp : (p : Int) ≤ c 0 0) (e : h 147 (L : Int) = (p : Int) - 1) : ∃ g, CoM c g ∧ g 147 (L : Int) = (p : Int) ∧ g 148 = h 148 ∧ g 149 = h 149 ∧ Gf L L h g ∧ X xs d k_M_playing 11 [mR 130, mI (turns : Int), mI (L : Int), x3, x4] [] h = X xs d k_M_playing 57 [mR 130, mI (turns : Int), mI (L : Int), mI (p : Int), x4] [mI (b2i ((p : Int) < c 0 0))] g := by
  have hn := w.1
  have kr := s.rs hn.2
  have e2 : rsM h (lvA L) 147 (L : Int) = (p : Int) - 1 := by rw [rsM, rowU_ne (by omega)]; exact e
  refine ⟨upM (rsM h (lvA L)) 147 (L : Int) ((p : Int) - 1 + 1), kr.mv (up_row (by omega)), by rw [up_eq]; omega, by rw [up_row (by omega), rsM, rowU_ne (by omega)], by rw [up_row (by omega), rsM, rowU_ne (by omega)], (Gf.rf.rs _).up (by omega) (Int.le_refl _), ?_⟩
  rw [e_M_playing_11]
  refine cI_of (m_levelAt (by omega)) ?_
  refine cV_of (m_restores (by unfold lvA; omega)) ?_
  rw [e2, kr.n, up_eq]
  refine if_y (by omega) ?_
  refine if_y (by omega) ?_
  refine if_y (by omega) ?_
  refine if_y (by omega) ?_
  refine if_n (by omega) ?_
  rw [show (p : Int) - 1 + 1 = (p : Int) by omega]
  by_cases z : (p : Int) < c 0 0
  · refine if_y (z) ?_
    rw [b2i_y z]
  · refine if_n (z) ?_
    rw [b2i_n z]
theorem clC_M (k : CoM c h) {p : Int} (hp : 0 ≤ p ∧ p ≤ 6) : CoM (clC c p) (upM h 131 (10 + 5 * p + 2) (max 0 (c 5 p - c 2 4))) := k.set hp (f := 2) (by omega)
theorem m_mnE {turns t L : Nat} (hL : L ≤ 3) (ev : L % 2 = 0) (E : EvP xs d turns t L) : MnP xs d turns t L := by
  intro c h x3 x4 s w e1 e2
  have hn := w.1
  have d1 : decide (L % 2 = 1) = false := decide_eq_false (by omega)
  have d0 : decide (L % 2 = 0) = true := decide_eq_true ev
  unfold EvP at E
  rw [d1] at E
  rw [d0]
  have f0 : ∀ p, canD c p → (p : Int) < c 0 0 → 0 ≤ fnG t c p := fun p cd hp => (gv_bd t false _ (drC_wf w ⟨by omega, hp⟩ cd.1 cd.2)).1
  have ag : ∀ p : Nat, (p : Int) ≤ c 0 0 → (mxF c (fnG t c) p = -1 ∧ agF c (fnG t c) p = -1) ∨ (0 ≤ mxF c (fnG t c) p ∧ 0 ≤ agF c (fnG t c) p) := fun p => by
    induction p with
    | zero => exact fun _ => Or.inl ⟨rfl, rfl⟩
    | succ p ih =>
      intro hp
      have := ih (by omega)
      rw [agF, mxF]
      by_cases z : canD c p ∧ mxF c (fnG t c) p < fnG t c p
      · have := f0 p z.1 (by omega)
        rw [if_pos z, if_pos z]
        exact Or.inr ⟨this, by omega⟩
      · rw [if_neg z, if_neg z]
        exact this
  have key : ∀ (m p : Nat) (g : mM) (x3 x4 : mv), p + m = (c 0 0).toNat → SlM L c g → Gf L L h g → g 147 (L : Int) = (p : Int) - 1 → ((mxF c (fnG t c) p = -1 ∧ g 149 (L : Int) = -1) ∨ (0 ≤ mxF c (fnG t c) p ∧ g 149 (L : Int) = agF c (fnG t c) p ∧ g 148 (L : Int) = mxF c (fnG t c) p)) → ∃ g' x3' x4', X xs d k_M_playing 11 [mR 130, mI (turns : Int), mI (L : Int), x3, x4] [] g = X xs d k_M_playing 11 [mR 130, mI (turns : Int), mI (L : Int), x3', x4'] [] g' ∧ g' 147 (L : Int) = c 0 0 ∧ g' 148 (L : Int) = gv (t + 1) true c ∧ (L % 2 = 0 → g' 149 (L : Int) = bdG t c) ∧ Gf L L h g' := by
    intro m
    induction m with
    | zero =>
      intro p g x3 x4 hp sg gf g7 inv
      obtain rfl : p = (c 0 0).toNat := by omega
      obtain ⟨k, k1, k2, k3, k4, k5, k6⟩ := m_turn (xs := xs) (d := d) (turns := turns) hL (x3 := x3) (x4 := x4) sg w (by omega) g7
      obtain ⟨g', y3, y4, r1, r2⟩ := E c k (((c 0 0).toNat : Nat) : Int) (b2i ((((c 0 0).toNat : Nat) : Int) < c 0 0)) k1 w
      have gl := gv_bd t false c w
      have A := ag (c 0 0).toNat (by omega)
      obtain ⟨q7, q8, q9⟩ := r2.2.2 (L : Int) (by omega)
      rw [k2] at q7
      rw [k3] at q8
      rw [k4] at q9
      refine ⟨stM g' L (gv t false c), y3, y4, ?_, ?_, ?_, fun _ => ?_, ((gf.tr k5).tr (r2.wk (Nat.le_refl _) (by omega))).st⟩
      · rw [k6, e_M_playing_57]
        refine if_y ((b2i_n (by omega))) ?_
        rw [e_M_playing_69]
        refine if_y ((b2i_n (by omega))) ?_
        exact r1
      · rw [stM_7, q7]; omega
      · rw [stM_e ev, gv_b, q8, q9]
        by_cases z : g 149 (L : Int) = -1 ∨ g 148 (L : Int) < gv t false c
        · rw [if_pos z, up_ne (by omega), up_eq]
          omega
        · rw [if_neg z, q8]
          omega
      · rw [stM_e ev, bdG, q8, q9]
        by_cases z : g 149 (L : Int) = -1 ∨ g 148 (L : Int) < gv t false c
        · rw [if_pos z, up_eq, q7, if_pos (by omega)]
          omega
        · rw [if_neg z, if_neg (by omega), q9]
          omega
    | succ m ih =>
      intro p g x3 x4 hp sg gf g7 inv
      obtain ⟨k, k1, k2, k3, k4, k5, k6⟩ := m_turn (xs := xs) (d := d) (turns := turns) hL (x3 := x3) (x4 := x4) sg w (p := p) (by omega) g7
      have A := ag p (by omega)
      have sl : ∀ {g' : mM}, Gf L L g g' → SlM L c g' := fun q => sg.mv hn.2 (fun j h1 h2 => q.2.1 j (by unfold lvA at h1; omega) (by unfold lvA at h2 ⊢; omega))
      by_cases cd : canD c p
      · obtain ⟨k', u1, u2, u3⟩ := m_drinks (xs := xs) (d := d) k1 w (p := (p : Int)) ⟨by omega, by omega⟩ cd.1 cd.2
        obtain ⟨g', y3, y4, r1, r2⟩ := E (drC c (p : Int)) k' (p : Int) (b2i ((p : Int) < c 0 0)) u2 (drC_wf w ⟨by omega, by omega⟩ cd.1 cd.2)
        have fp : gv t false (drC c (p : Int)) = fnG t c p := rfl
        rw [fp] at r1
        have fl := f0 p cd (by omega)
        obtain ⟨q7, q8, q9⟩ := r2.2.2 (L : Int) (by omega)
        rw [u3.1 147 (by omega) (by omega), k2] at q7
        rw [u3.1 148 (by omega) (by omega), k3] at q8
        rw [u3.1 149 (by omega) (by omega), k4] at q9
        have G1 : Gf L L g (stM g' L (fnG t c p)) := ((k5.oc u3).tr (r2.wk (Nat.le_refl _) (by omega))).st
        have fin : ((mxF c (fnG t c) (p + 1) = -1 ∧ stM g' L (fnG t c p) 149 (L : Int) = -1) ∨ (0 ≤ mxF c (fnG t c) (p + 1) ∧ stM g' L (fnG t c p) 149 (L : Int) = agF c (fnG t c) (p + 1) ∧ stM g' L (fnG t c p) 148 (L : Int) = mxF c (fnG t c) (p + 1))) := by
          have m1 : mxF c (fnG t c) (p + 1) = if mxF c (fnG t c) p < fnG t c p then fnG t c p else mxF c (fnG t c) p := by
            rw [mxF]
            by_cases z : mxF c (fnG t c) p < fnG t c p
            · rw [if_pos ⟨cd, z⟩, if_pos z]
            · rw [if_neg (fun y => z y.2), if_neg z]
          have a1 : agF c (fnG t c) (p + 1) = if mxF c (fnG t c) p < fnG t c p then (p : Int) else agF c (fnG t c) p := by
            rw [agF]
            by_cases z : mxF c (fnG t c) p < fnG t c p
            · rw [if_pos ⟨cd, z⟩, if_pos z]
            · rw [if_neg (fun y => z y.2), if_neg z]
          rw [stM_e ev, q8, q9]
          generalize fnG t c p = v at m1 a1 fl ⊢
          by_cases z : g 149 (L : Int) = -1 ∨ g 148 (L : Int) < v
          · have lt : mxF c (fnG t c) p < v := by omega
            rw [if_pos lt] at m1 a1
            rw [if_pos z, up_eq, up_ne (by omega), up_eq, q7, m1, a1]
            exact Or.inr ⟨fl, rfl, rfl⟩
          · have lt : ¬ mxF c (fnG t c) p < v := by omega
            rw [if_neg lt] at m1 a1
            rw [if_neg z, q8, q9, m1, a1]
            exact inv
        have f7 : stM g' L (fnG t c p) 147 (L : Int) = ((p + 1 : Nat) : Int) - 1 := by
          rw [stM_7, q7]; omega
        obtain ⟨g2, z3, z4, v1, v2⟩ := ih (p + 1) (stM g' L (fnG t c p)) y3 y4 (by omega) (sl G1) (gf.tr G1) f7 fin
        refine ⟨g2, z3, z4, ?_, v2⟩
        rw [k6, e_M_playing_57, if_neg (by rw [b2i_y (show (p : Int) < c 0 0 by omega)]; decide), if_pos (by omega), if_pos (by omega), cI_of u1 rfl, if_neg (by decide), e_M_playing_69, if_neg (by rw [b2i_y (show (p : Int) < c 0 0 by omega)]; decide), if_pos (by omega), if_neg (by omega), r1, v1]
      · have m1 : mxF c (fnG t c) (p + 1) = mxF c (fnG t c) p := by rw [mxF, if_neg (fun y => cd y.1)]
        have a1 : agF c (fnG t c) (p + 1) = agF c (fnG t c) p := by rw [agF, if_neg (fun y => cd y.1)]
        obtain ⟨g2, z3, z4, v1, v2⟩ := ih (p + 1) k (mI (p : Int)) (mI (b2i ((p : Int) < c 0 0))) (by omega) (sl k5) (gf.tr k5) (by rw [k2]; omega) (by rw [m1, a1, k3, k4]; exact inv)
        refine ⟨g2, z3, z4, ?_, v2⟩
        rw [k6, e_M_playing_57, if_neg (by rw [b2i_y (show (p : Int) < c 0 0 by omega)]; decide), if_pos (by omega), if_pos (by omega), cI_of (m_drinksNo k1 w ⟨by omega, by omega⟩ cd) rfl, if_pos rfl, v1]
  exact key (c 0 0).toNat 0 h x3 x4 (by omega) s Gf.rf (by rw [e1]; rfl) (Or.inl ⟨rfl, e2⟩)
theorem m_mnO {turns t L : Nat} (hL : L ≤ 3) (od : L % 2 = 1) (E : EvP xs d turns t L) : MnP xs d turns t L := by
  intro c h x3 x4 s w e1 e2
  have hn := w.1
  have d1 : decide (L % 2 = 1) = true := decide_eq_true od
  have d0 : decide (L % 2 = 0) = false := decide_eq_false (by omega)
  unfold EvP at E
  rw [d1] at E
  rw [d0]
  generalize hF : (fun p : Nat => gv t true (clC c (p : Int))) = F
  have gE : gv (t + 1) false c = mnF F (gv t true c) (c 0 0).toNat := by rw [gv, hF]
  rw [gE]
  have key : ∀ (m p : Nat) (g : mM) (x3 x4 : mv), p + m = (c 0 0).toNat → SlM L c g → Gf L L h g → g 147 (L : Int) = (p : Int) - 1 → ((p = 0 ∧ g 149 (L : Int) = -1) ∨ (g 149 (L : Int) ≠ -1 ∧ min (g 148 (L : Int)) (gv t true c) = mnF F (gv t true c) p)) → ∃ g' x3' x4', X xs d k_M_playing 11 [mR 130, mI (turns : Int), mI (L : Int), x3, x4] [] g = X xs d k_M_playing 11 [mR 130, mI (turns : Int), mI (L : Int), x3', x4'] [] g' ∧ g' 147 (L : Int) = c 0 0 ∧ g' 148 (L : Int) = mnF F (gv t true c) (c 0 0).toNat ∧ (L % 2 = 0 → g' 149 (L : Int) = bdG t c) ∧ Gf L L h g' := by
    intro m
    induction m with
    | zero =>
      intro p g x3 x4 hp sg gf g7 inv
      obtain rfl : p = (c 0 0).toNat := by omega
      obtain ⟨k, k1, k2, k3, k4, k5, k6⟩ := m_turn (xs := xs) (d := d) (turns := turns) hL (x3 := x3) (x4 := x4) sg w (by omega) g7
      obtain ⟨g', y3, y4, r1, r2⟩ := E c k (((c 0 0).toNat : Nat) : Int) (b2i ((((c 0 0).toNat : Nat) : Int) < c 0 0)) k1 w
      obtain ⟨q7, q8, q9⟩ := r2.2.2 (L : Int) (by omega)
      rw [k2] at q7
      rw [k3] at q8
      rw [k4] at q9
      refine ⟨stM g' L (gv t true c), y3, y4, ?_, ?_, ?_, fun z => absurd z (by omega), ((gf.tr k5).tr (r2.wk (Nat.le_refl _) (by omega))).st⟩
      · rw [k6, e_M_playing_57]
        refine if_y ((b2i_n (by omega))) ?_
        rw [e_M_playing_69]
        refine if_y ((b2i_n (by omega))) ?_
        exact r1
      · rw [stM_7, q7]; omega
      · rw [stM_o (by omega), q8, q9]
        by_cases z : g 149 (L : Int) = -1 ∨ gv t true c < g 148 (L : Int)
        · rw [if_pos z, up_ne (by omega), up_eq]
          rcases inv with ⟨i1, i2⟩ | ⟨i1, i2⟩
          · rw [i1, mnF]
          · omega
        · rw [if_neg z, q8]
          omega
    | succ m ih =>
      intro p g x3 x4 hp sg gf g7 inv
      obtain ⟨k, k1, k2, k3, k4, k5, k6⟩ := m_turn (xs := xs) (d := d) (turns := turns) hL (x3 := x3) (x4 := x4) sg w (p := p) (by omega) g7
      have sl : ∀ {g' : mM}, Gf L L g g' → SlM L c g' := fun q => sg.mv hn.2 (fun j h1 h2 => q.2.1 j (by unfold lvA at h1; omega) (by unfold lvA at h2 ⊢; omega))
      have u1 := m_cools (xs := xs) (d := d) k1 w (p := (p : Int)) ⟨by omega, by omega⟩
      have u2 := clC_M k1 (p := (p : Int)) (by omega)
      have u3 : Oc k (upM k 131 (10 + 5 * (p : Int) + 2) (max 0 (c 5 (p : Int) - c 2 4))) := Oc.rf.up (by omega)
      obtain ⟨g', y3, y4, r1, r2⟩ := E (clC c (p : Int)) _ (p : Int) (b2i ((p : Int) < c 0 0)) u2 (clC_wf w)
      have fp : gv t true (clC c (p : Int)) = F p := by rw [← hF]
      rw [fp] at r1
      obtain ⟨q7, q8, q9⟩ := r2.2.2 (L : Int) (by omega)
      rw [u3.1 147 (by omega) (by omega), k2] at q7
      rw [u3.1 148 (by omega) (by omega), k3] at q8
      rw [u3.1 149 (by omega) (by omega), k4] at q9
      have G1 : Gf L L g (stM g' L (F p)) := ((k5.oc u3).tr (r2.wk (Nat.le_refl _) (by omega))).st
      have fin : ((p + 1 = 0 ∧ stM g' L (F p) 149 (L : Int) = -1) ∨ (stM g' L (F p) 149 (L : Int) ≠ -1 ∧ min (stM g' L (F p) 148 (L : Int)) (gv t true c) = mnF F (gv t true c) (p + 1))) := by
        rw [stM_o (by omega), q8, q9, mnF]
        generalize F p = v
        refine Or.inr ?_
        by_cases z : g 149 (L : Int) = -1 ∨ v < g 148 (L : Int)
        · rw [if_pos z, up_eq, up_ne (by omega), up_eq, q7]
          refine ⟨by omega, ?_⟩
          rcases inv with ⟨i1, i2⟩ | ⟨i1, i2⟩
          · rw [i1, mnF]; omega
          · omega
        · rw [if_neg z, q8, q9]
          refine ⟨by omega, ?_⟩
          rcases inv with ⟨i1, i2⟩ | ⟨i1, i2⟩
          · exact absurd (Or.inl i2) z
          · omega
      have f7 : stM g' L (F p) 147 (L : Int) = ((p + 1 : Nat) : Int) - 1 := by
        rw [stM_7, q7]; omega
      obtain ⟨g2, z3, z4, v1, v2⟩ := ih (p + 1) (stM g' L (F p)) y3 y4 (by omega) (sl G1) (gf.tr G1) f7 fin
      refine ⟨g2, z3, z4, ?_, v2⟩
      rw [k6, e_M_playing_57, if_neg (by rw [b2i_y (show (p : Int) < c 0 0 by omega)]; decide), if_pos (by omega), if_neg (by omega), e_M_playing_69, if_neg (by rw [b2i_y (show (p : Int) < c 0 0 by omega)]; decide), if_pos (by omega), if_pos (by omega), cV_of u1 rfl, r1, v1]
  exact key (c 0 0).toNat 0 h x3 x4 (by omega) s Gf.rf (by rw [e1]; rfl) (Or.inl ⟨rfl, e2⟩)
theorem m_mn {turns t L : Nat} (hL : L ≤ 3) (E : EvP xs d turns t L) : MnP xs d turns t L := by
  by_cases e : L % 2 = 0
  · exact m_mnE hL e E
  · exact m_mnO hL (by omega) E
theorem m_beginsAt {L : Nat} (hL : L ≤ 3) : C xs d 204 0 [mR 130, mI (L : Int)] h = some ([], upM (upM (kpM h (lvA L)) 147 (L : Int) (-1)) 149 (L : Int) (-1)) := by
  rw [c_M_beginsAt]
  refine cI_of (m_levelAt (by omega)) ?_
  refine cV_of (m_keeps (by unfold lvA; omega)) ?_
  refine if_y (by omega) ?_
  refine if_y (by omega) ?_
  rfl
theorem m_ev {turns : Nat} (h4 : turns ≤ 4) : ∀ (t L : Nat), L + 1 + t = turns → EvP xs d turns t L
  | 0, L, hl => by
    intro c h x3 x4 k w
    refine ⟨h, mI x3, mI x4, ?_, Gf.rf⟩
    rw [e_M_playing_79, if_pos (by omega), if_pos (by omega), cI_of (m_areLit k w) rfl, cI_of (m_bits (sq_small (by have := w.1; omega))) rfl, cV_of (m_settlesAt (by omega) _) rfl, e_M_playing_95]
    rfl
  | t + 1, L, hl => by
    intro c h x3 x4 k w
    have hn := w.1
    have M : MnP xs d turns t (L + 1) := m_mn (by omega) (m_ev h4 t (L + 1) (by omega))
    have sk : SlM (L + 1) c (upM (upM (kpM h (lvA (L + 1))) 147 ((L + 1 : Nat) : Int) (-1)) 149 ((L + 1 : Nat) : Int) (-1)) := (k.kp hn.2).mv hn.2 (fun j _ _ => by rw [up_ne (by omega), up_ne (by omega)])
    obtain ⟨g, y3, y4, r1, r2, r3, -, r5⟩ := M c _ (mI x3) (mI x4) sk w (by rw [up_ne (by omega), up_eq]) up_eq
    have sg : SlM (L + 1) c g := sk.mv hn.2 (fun j h1 h2 => r5.2.1 j (by unfold lvA at h1; omega) (by unfold lvA at h2 ⊢; omega))
    have kr := sg.rs hn.2
    have e7 : rsM g (lvA (L + 1)) 147 ((L + 1 : Nat) : Int) = c 0 0 := by rw [rsM, rowU_ne (by omega)]; exact r2
    have e8 : rsM g (lvA (L + 1)) 148 ((L + 1 : Nat) : Int) = gv (t + 1) (decide ((L + 1) % 2 = 0)) c := by rw [rsM, rowU_ne (by omega)]; exact r3
    have eb : decide (L % 2 = 1) = decide ((L + 1) % 2 = 0) := decide_eq_decide.mpr (by omega)
    have G0 : Gf L (L + 1) h (upM (upM (kpM h (lvA (L + 1))) 147 ((L + 1 : Nat) : Int) (-1)) 149 ((L + 1 : Nat) : Int) (-1)) := (Gf.rf.kp.up (by omega) (Int.le_refl _)).up (by omega) (Int.le_refl _)
    refine ⟨upM (rsM g (lvA (L + 1))) 147 ((L + 1 : Nat) : Int) (c 0 0 + 1), mI (c 0 0 + 1), y4, ?_, ((G0.tr (r5.wk (by omega) (Nat.le_refl _))).rs _).up (by omega) (Int.le_refl _)⟩
    rw [e_M_playing_79, if_pos (by omega), if_neg (by omega), if_pos (by omega), show (L : Int) + 1 = ((L + 1 : Nat) : Int) by omega, cV_of (m_beginsAt (by omega)) rfl, e_M_playing_95, r1, e_M_playing_11, cI_of (m_levelAt (by omega)) rfl, cV_of (m_restores (by unfold lvA; omega)) rfl, e7, kr.n, up_eq, if_pos (by omega), if_pos (by omega), if_pos (by omega), if_pos (by omega), if_pos (by omega), if_neg (by omega), if_pos (by omega), if_pos (by omega), if_pos (by omega), show ((L + 1 : Nat) : Int) + -1 = (L : Int) by omega, show (L : Int) + 1 = ((L + 1 : Nat) : Int) by omega, e8, cV_of (m_settlesAt (by omega) _) rfl, eb]
/-- all is back, but for the marks of the game -/
def LkG (h h' : mM) : Prop := (∀ a, a ≠ 131 → a ≠ 139 → a ≠ 147 → a ≠ 148 → a ≠ 149 → h' a = h a) ∧ ∀ k, 0 ≤ k → k < 1656 → h' 131 k = h 131 k
theorem LkG.keep {h' : mM} (p : LkG h h') : Keep h h' := ⟨fun a z => p.1 a (fun e => by subst e; exact absurd z (by decide)) (fun e => by subst e; exact absurd z (by decide)) (fun e => by subst e; exact absurd z (by decide)) (fun e => by subst e; exact absurd z (by decide)) (fun e => by subst e; exact absurd z (by decide)), fun j _ => by rw [p.1 0 (by omega) (by omega) (by omega) (by omega) (by omega)], fun j _ => by rw [p.1 130 (by omega) (by omega) (by omega) (by omega) (by omega)], fun j hj => p.2 j (by omega) (by omega)⟩
theorem m_playing {t : Nat} (ht : t ≤ 3) (k : CoM c h) (w : WfC c) : ∃ g, C xs d 205 0 [mR 130, mI ((t + 1 : Nat) : Int)] h = some ([mI (gv (t + 1) true c)], g) ∧ CoM c g ∧ g 149 0 = bdG t c ∧ LkG h g := by
  have hn := w.1
  have M : MnP xs d (t + 1) t 0 := m_mn (by omega) (m_ev (by omega) t 0 (by omega))
  have sk : SlM 0 c (upM (upM (kpM h (lvA 0)) 147 ((0 : Nat) : Int) (-1)) 149 ((0 : Nat) : Int) (-1)) := (k.kp hn.2).mv hn.2 (fun j _ _ => by rw [up_ne (by omega), up_ne (by omega)])
  obtain ⟨g, y3, y4, r1, r2, r3, r4, r5⟩ := M c _ (mC 0) (mC 0) sk w (by rw [up_ne (by omega), up_eq]) up_eq
  have d0 : decide (0 % 2 = 0) = true := rfl
  rw [d0] at r3
  have sg : SlM 0 c g := sk.mv hn.2 (fun j h1 h2 => r5.2.1 j (by unfold lvA at h1; omega) (by unfold lvA at h2 ⊢; omega))
  have kr := sg.rs hn.2
  have e7 : rsM g (lvA 0) 147 ((0 : Nat) : Int) = c 0 0 := by rw [rsM, rowU_ne (by omega)]; exact r2
  generalize hf : upM (rsM g (lvA 0)) 147 ((0 : Nat) : Int) (c 0 0 + 1) = f
  have f131 : f 131 = rsM g (lvA 0) 131 := by rw [← hf, up_row (by omega)]
  have sf : SlM 0 c f := sg.mv hn.2 (fun j h1 h2 => by rw [f131, rsM, rowU_out (by unfold lvA at h1; omega)])
  have G0 : Gf 0 0 (kpM h (lvA 0)) f := by
    rw [← hf]
    exact ((((Gf.rf.up (by omega) (Int.le_refl _)).up (by omega) (Int.le_refl _)).tr r5).rs _).up (by omega) (Int.le_refl _)
  refine ⟨rsM f (lvA 0), ?_, sf.rs hn.2, ?_, fun a h1 h2 h3 h4 h5 => ?_, fun j h1 h2 => ?_⟩
  · rw [c_M_playing, if_neg (by omega), show (0 : Int) = ((0 : Nat) : Int) from rfl, cV_of (m_beginsAt (by omega)) rfl, r1, e_M_playing_11, cI_of (m_levelAt (by omega)) rfl, cV_of (m_restores (by unfold lvA; omega)) rfl, e7, kr.n, up_eq, if_pos (by omega), if_pos (by omega), if_pos (by omega), if_pos (by omega), if_pos (by omega), if_pos (by omega)]
    rw [show (0 : Int) = ((0 : Nat) : Int) from rfl, cI_of (m_levelAt (by omega)) rfl, cV_of (m_restores (by unfold lvA; omega)) rfl]
    have hf' : upM (rsM g (lvA 0)) 147 ((0 : Nat) : Int) (c 0 ((0 : Nat) : Int) + 1) = f := hf
    rw [hf']
    have : rsM f (lvA 0) 148 ((0 : Nat) : Int) = gv (t + 1) true c := by rw [rsM, rowU_ne (by omega), ← hf, up_ne (by omega), rsM, rowU_ne (by omega)]; exact r3
    rw [this]
  · rw [rsM, rowU_ne (by omega), ← hf, up_ne (by omega), rsM, rowU_ne (by omega)]; exact r4 rfl
  · rw [rsM, rowU_ne h1, G0.1 a h1 h2 h3 h4 h5, kpM, rowW_ne h1]
  · by_cases q : j < 46
    · have := G0.2.1 (lvA 0 + j) (by unfold lvA; omega) (by unfold lvA; omega)
      rw [rsM, rowU_in ⟨h1, q⟩, this, kpM, rowW_in (by omega), show lvA 0 + j - lvA 0 = j by omega]
    · rw [rsM, rowU_out (by omega), G0.2.1 j (by omega) (by unfold lvA; omega), kpM, rowW_out (by unfold lvA; omega)]
theorem plL_ok : ∀ a ∈ plL, keptL.elem a = false ∧ a ≠ 0 ∧ a ≠ 130 ∧ a ≠ 131 := by decide
theorem mvG_bd {t : Nat} (w : WfC c) : mvG t c = -1 ∧ bdG t c = c 0 0 ∨ 0 ≤ mvG t c ∧ mvG t c < c 0 0 ∧ bdG t c = mvG t c := by
  have hn := w.1
  have A : ∀ p : Nat, (p : Int) ≤ c 0 0 → (mxF c (fnG t c) p = -1 ∧ agF c (fnG t c) p = -1) ∨ (0 ≤ mxF c (fnG t c) p ∧ 0 ≤ agF c (fnG t c) p) := fun p => by
    induction p with
    | zero => exact fun _ => Or.inl ⟨rfl, rfl⟩
    | succ p ih =>
      intro hp
      have := ih (by omega)
      rw [agF, mxF]
      by_cases z : canD c p ∧ mxF c (fnG t c) p < fnG t c p
      · have := (gv_bd t false _ (drC_wf w (p := (p : Int)) ⟨by omega, by omega⟩ z.1.1 z.1.2)).1
        rw [if_pos z, if_pos z]
        exact Or.inr ⟨this, by omega⟩
      · rw [if_neg z, if_neg z]
        exact this
  have a := A (c 0 0).toNat (by omega)
  have b := agF_bd (c := c) (f := fnG t c) (c 0 0).toNat
  have g := gv_bd t false c w
  unfold mvG bdG
  by_cases z : mxF c (fnG t c) (c 0 0).toNat < gv t false c
  · rw [if_pos z, if_pos z]
    exact Or.inl ⟨rfl, rfl⟩
  · rw [if_neg z, if_neg z]
    refine Or.inr ⟨?_, ?_, rfl⟩ <;> omega
theorem q_game (R : Rel h) (x : Int) : QI xs (d + 4) h 58 206 [mI x] := by
  obtain ⟨c, k⟩ := R.co
  have kT := k.1
  have kM := CoM.z.mp k.2.1
  have w := k.2.2.1
  by_cases q : 0 ≤ x ∧ x ≤ 4
  rotate_left
  · refine QI.ans R 1 (-1) ?_ ?_
    · rw [c_T_game]
      refine cI_of (t_within) ?_
      rw [if_pos (b2i_0.mpr q)]
      refine cI_of (c_T_refuse xs _ _ h) ?_
      rfl
    · rw [c_M_game]
      refine cI_of (m_isFrom) ?_
      rw [if_pos (b2i_0.mpr q)]
      refine cI_of (c_M_refuse xs _ _ _) ?_
      rfl
  by_cases q0 : x = 0
  · subst q0
    obtain ⟨g1, r1, r2, o1⟩ := t_playOut0 (xs := xs) (d := d + 4) kT w
    have kM1 : CoM c (upM g1 0 0 0) := kM.mv (by rw [up_row (by omega), o1.at 131 rfl])
    refine QI.mkU R k (litN c) 0 (g1 := g1) (g2 := upM g1 0 0 0) ?_ (kT.mv (fun a h1 h2 => o1 a (by simp; omega))) (Keep.ow o1 plL_ok) ?_ kM1 Keep.rf (fun a h1 h2 => by rw [up_row (by omega)]) rfl w k.2.2.2.1 rfl
    · rw [c_T_game]
      refine cI_of (t_within) ?_
      rw [if_neg (fun z => b2i_0.mp z q)]
      refine cV_of (r1) ?_
      refine cI_of (c_Ga_worth xs _ _) ?_
      rw [r2]
      refine cI_of (c_T_answer xs _ _ _) ?_
      rfl
    · rw [c_M_game]
      refine cI_of (m_isFrom) ?_
      rw [if_neg (fun z => b2i_0.mp z q), c_M_playing, if_pos rfl, cI_of (m_areLit kM1 w) rfl, cI_of (m_bits (sq_small (by have := w.1; omega))) rfl]
      refine cI_of (rfl) ?_
      refine cI_of (c_M_gives xs _ _ _) ?_
      rfl
  obtain ⟨t, rfl⟩ : ∃ t : Nat, x = ((t + 1 : Nat) : Int) := ⟨(x - 1).toNat, by omega⟩
  obtain ⟨g1, r1, r2, r3, o1⟩ := t_playOut (xs := xs) (d := d) (t := t) (by omega) kT w
  have kM1 : CoM c (upM g1 0 0 0) := kM.mv (by rw [up_row (by omega), o1.at 131 rfl])
  obtain ⟨g2, s1, s2, s3, s4⟩ := m_playing (xs := xs) (d := d + 4) (t := t) (by omega) kM1 w
  refine QI.mkU R k (gv (t + 1) true c) 0 (g1 := g1) (g2 := g2) ?_ (kT.mv (fun a h1 h2 => o1 a (by simp; omega))) (Keep.ow o1 plL_ok) ?_ s2 s4.keep (fun a h1 h2 => by rw [s4.1 a (by omega) (by omega) (by omega) (by omega) (by omega), up_row (by omega)]) (s4.1 0 (by omega) (by omega) (by omega) (by omega) (by omega)) w k.2.2.2.1 rfl
  · rw [c_T_game]
    refine cI_of (t_within) ?_
    rw [if_neg (fun z => b2i_0.mp z q)]
    refine cV_of (r1) ?_
    refine cI_of (c_Ga_worth xs _ _) ?_
    rw [r2]
    refine cI_of (c_T_answer xs _ _ _) ?_
    rfl
  · rw [c_M_game]
    refine cI_of (m_isFrom) ?_
    rw [if_neg (fun z => b2i_0.mp z q)]
    refine cI_of (s1) ?_
    refine cI_of (c_M_gives xs _ _ _) ?_
    rfl
theorem q_moveOf (R : Rel h) (x : Int) : QI xs (d + 4) h 59 207 [mI x] := by
  obtain ⟨c, k⟩ := R.co
  have kT := k.1
  have kM := CoM.z.mp k.2.1
  have w := k.2.2.1
  by_cases q : 1 ≤ x ∧ x ≤ 4
  rotate_left
  · refine QI.ans R 1 (-1) ?_ ?_
    · rw [c_T_moveOf]
      refine cI_of (t_within) ?_
      rw [if_pos (b2i_0.mpr q)]
      refine cI_of (c_T_refuse xs _ _ h) ?_
      rfl
    · rw [c_M_moveOf]
      refine cI_of (m_isFrom) ?_
      rw [if_pos (b2i_0.mpr q)]
      refine cI_of (c_M_refuse xs _ _ _) ?_
      rfl
  obtain ⟨t, rfl⟩ : ∃ t : Nat, x = ((t + 1 : Nat) : Int) := ⟨(x - 1).toNat, by omega⟩
  obtain ⟨g1, r1, r2, r3, o1⟩ := t_playOut (xs := xs) (d := d) (t := t) (by omega) kT w
  have go : ∀ v s : Int, (mvG t c = -1 ∧ v = -1 ∧ s = 6 ∨ mvG t c ≠ -1 ∧ v = mvG t c ∧ s = 0) → QI xs (d + 4) h 59 207 [mI ((t + 1 : Nat) : Int)] := by
    intro v s hv
    have mb := mvG_bd (t := t) w
    have kM1 : CoM c (upM g1 0 0 s) := kM.mv (by rw [up_row (by omega), o1.at 131 rfl])
    obtain ⟨g2, s1, s2, s3, s4⟩ := m_playing (xs := xs) (d := d + 4) (t := t) (by omega) kM1 w
    refine QI.mkU R k v s (g1 := g1) (g2 := g2) ?_ (kT.mv (fun a h1 h2 => o1 a (by simp; omega))) (Keep.ow o1 plL_ok) ?_ s2 s4.keep (fun a h1 h2 => by rw [s4.1 a (by omega) (by omega) (by omega) (by omega) (by omega), up_row (by omega)]) (s4.1 0 (by omega) (by omega) (by omega) (by omega) (by omega)) w k.2.2.2.1 rfl
    · rw [c_T_moveOf]
      refine cI_of (t_within) ?_
      rw [if_neg (fun z => b2i_0.mp z q)]
      refine cV_of (r1) ?_
      refine cI_of (c_Ga_firstMove xs _ _) ?_
      rw [r3]
      rcases hv with ⟨e1, e2, e3⟩ | ⟨e1, e2, e3⟩
      · rw [if_pos e1, e2, e3]
        refine cI_of (c_T_refuse xs _ _ _) ?_
        rfl
      · rw [if_neg e1, e2, e3]
        refine cI_of (c_Ga_firstMove xs _ _) ?_
        rw [r3]
        refine cI_of (c_T_answer xs _ _ _) ?_
        rfl
    · rw [c_M_moveOf]
      refine cI_of (m_isFrom) ?_
      rw [if_neg (fun z => b2i_0.mp z q)]
      refine cI_of (s1) ?_
      rw [s3, s2.n]
      rcases hv with ⟨e1, e2, e3⟩ | ⟨e1, e2, e3⟩
      · rw [if_pos (by omega), e2, e3]
        refine cI_of (c_M_refuse xs _ _ _) ?_
        rfl
      · rw [if_neg (by omega), e2, e3, show bdG t c = mvG t c by omega]
        refine cI_of (c_M_gives xs _ _ _) ?_
        rfl
  by_cases z : mvG t c = -1
  · exact go _ _ (Or.inl ⟨z, rfl, rfl⟩)
  · exact go _ _ (Or.inr ⟨z, rfl, rfl⟩)
end
