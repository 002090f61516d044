/-! EQUIV 7: a new state of the map as a whole; come -/
def keptM : List Nat := [3, 4, 5, 6, 7, 8, 11, 56, 59, 60, 61, 62, 63, 64, 65, 66, 68, 69, 70, 71, 72, 73, 74, 75, 76, 77, 78, 79, 80, 81, 82, 84, 85, 86, 87, 88, 89, 90, 91, 92, 93, 94, 95, 96, 97, 98, 100, 101, 102, 103, 104, 105, 106, 133, 134, 135, 150]
theorem Rel.gen {h h' : mM} (R : Rel h) {c' : Kc} (k' : SlotR 12 30 c' h' 0 0) (hs : h' 0 0 = h' 130 2) (hf : h' 0 1 = h' 130 3 ∧ h' 0 2 = h' 130 4) (ht : h' 9 2 = h' 130 10 ∧ (0 ≤ h' 9 2 ∧ h' 9 2 ≤ 900) ∧ ∀ i, 0 ≤ i → i < h' 9 2 → h' 10 i = h' 136 i ∧ inB (h' 10 i)) (hfa : h' 9 11 = h' 130 16 ∧ h' 9 12 = h' 130 17)
    (hl : h' 0 3 = h' 130 44 ∧ (h' 0 3 = 0 ∨ h' 0 3 = 1) ∧ (h' 107 7 = 0 ∨ h' 107 7 = 1) ∧ (h' 0 3 = 1 → h' 107 3 = h' 152 0 ∧ h' 107 4 = h' 152 1 ∧ h' 107 5 = h' 152 2 ∧ h' 107 6 = h' 152 3 ∧ h' 107 7 = h' 152 4))
    (e : ∀ a, keptM.elem a = true → h' a = h a) (h132 : ∀ k, 7 ≤ k → k < 28 → h' 132 k = h 132 k) (h131 : ∀ k, 414 ≤ k → k < 1656 → h' 131 k = h 131 k) (hm : h' 130 45 = h 130 45) : Rel h' := by
  obtain ⟨R1, R2, R3, R4, R5, -, R7, R8, R9⟩ := R
  refine ⟨hs, hf, ?_, ht, hfa, ⟨c', k'⟩, ?_, hl, ?_⟩
  · intro t ht
    rw [e 7 (by decide), e 8 (by decide), e 133 (by decide), e 134 (by decide), e 135 (by decide)]
    have : keptM.elem (3 + t) = true := by
      have : t = 0 ∨ t = 1 ∨ t = 2 ∨ t = 3 := by omega
      rcases this with rfl | rfl | rfl | rfl <;> decide
    rw [e _ this]
    exact R3 t ht
  · rw [e 56 (by decide), hm]
    refine ⟨R7.1, R7.2.1, fun j hj => ?_⟩
    have hj3 : j = 0 ∨ j = 1 ∨ j = 2 := by have := R7.2.1; omega
    obtain ⟨cj, k1, k2, k3, k4, k5, k6⟩ := R7.2.2 j hj
    have hn := k3.1
    have ea : ∀ a, 59 + 16 * j ≤ a → a ≤ 66 + 16 * j → h' a = h a := fun a h1 h2 => e a (by
      have : a = 59 + 16 * j ∨ a = 60 + 16 * j ∨ a = 61 + 16 * j ∨ a = 62 + 16 * j ∨ a = 63 + 16 * j ∨ a = 64 + 16 * j ∨ a = 65 + 16 * j ∨ a = 66 + 16 * j := by omega
      rcases hj3 with rfl | rfl | rfl <;> rcases this with rfl | rfl | rfl | rfl | rfl | rfl | rfl | rfl <;> decide)
    have et : ∀ a, 68 + 16 * j ≤ a → a ≤ 74 + 16 * j → h' a = h a := fun a h1 h2 => e a (by
      have : a = 68 + 16 * j ∨ a = 69 + 16 * j ∨ a = 70 + 16 * j ∨ a = 71 + 16 * j ∨ a = 72 + 16 * j ∨ a = 73 + 16 * j ∨ a = 74 + 16 * j := by omega
      rcases hj3 with rfl | rfl | rfl <;> rcases this with rfl | rfl | rfl | rfl | rfl | rfl | rfl <;> decide)
    have er : ∀ k, 0 ≤ k → k < 414 → h' 131 (414 * ((j : Int) + 1) + k) = h 131 (414 * ((j : Int) + 1) + k) := fun k h1 h2 => h131 _ (by omega) (by omega)
    refine ⟨cj, k1.mv (fun a h1 h2 => ea a (by omega) (by omega)), ?_, k3, k4, k5.mv (fun p h1 h2 => by rw [ea _ (by omega) (by omega)]) (fun p h1 h2 => h132 _ (by omega) (by omega)), k6.mv (fun a h1 h2 => et a (by omega) (by omega)) (fun i hi => er i (by omega) (by omega))⟩
    obtain ⟨m1, m2, m3, m4, m5, m6, m7, m8⟩ := k2
    exact ⟨(er _ (by omega) (by omega)).trans m1, (er _ (by omega) (by omega)).trans m2, fun i a b => (er _ (by omega) (by omega)).trans (m3 i a b), fun i a b => (er _ (by omega) (by omega)).trans (m4 i a b), fun i a b => (er _ (by omega) (by omega)).trans (m5 i a b), fun i a b => (er _ (by omega) (by omega)).trans (m6 i a b), fun i a b => (er _ (by omega) (by omega)).trans (m7 i a b), fun i a b => (er _ (by omega) (by omega)).trans (m8 i a b)⟩
  · rw [e 11 (by decide), e 150 (by decide)]; exact R9
/-- one more person -/
def coC (c : Kc) (x : Int) : Kc := fun f i => if f = 0 then c 0 0 + 1 else if i = c 0 0 ∧ 3 ≤ f then (if f = 3 then x else if f = 4 then 1 else if f = 5 then 0 else if f = 6 then 2 else -1) else c f i
theorem coC_wf {c : Kc} (w : WfC c) {x : Int} (hx : 0 ≤ x ∧ x ≤ 59) (h7 : c 0 0 < 7) : WfC (coC c x) := by
  obtain ⟨hn, hg, r1, r2, r3, r4, r5, r6, hw⟩ := w
  have e : ∀ f i, f = 1 ∨ f = 2 → coC c x f i = c f i := fun f i hf => by unfold coC; rw [if_neg (by omega), if_neg (by omega)]
  have e0 : coC c x 0 0 = c 0 0 + 1 := if_pos rfl
  unfold WfC
  rw [e0, e 1 0 (by omega), e 2 1 (by omega), e 2 2 (by omega), e 2 3 (by omega), e 2 4 (by omega), e 2 5 (by omega), e 2 6 (by omega)]
  refine ⟨by omega, hg, r1, r2, r3, r4, r5, r6, fun i h1 h2 => ?_⟩
  unfold WfP
  rw [e0]
  by_cases q : i = c 0 0
  · have v : ∀ f, 3 ≤ f → coC c x f i = (if f = 3 then x else if f = 4 then 1 else if f = 5 then 0 else if f = 6 then 2 else -1) := fun f hf => by unfold coC; rw [if_neg (by omega), if_pos ⟨q, hf⟩]
    rw [v 3 (by omega), v 4 (by omega), v 5 (by omega), v 6 (by omega), v 7 (by omega)]
    exact ⟨hx, (show (0 : Int) ≤ 1 ∧ (1 : Int) ≤ 9 by omega), (show (0 : Int) ≤ 0 ∧ (0 : Int) ≤ 99 by omega), (show (0 : Int) ≤ 2 ∧ (2 : Int) ≤ 9 by omega), Or.inl rfl⟩
  · have v : ∀ f, 3 ≤ f → coC c x f i = c f i := fun f hf => by unfold coC; rw [if_neg (by omega), if_neg (fun z => q z.1)]
    rw [v 3 (by omega), v 4 (by omega), v 5 (by omega), v 6 (by omega), v 7 (by omega)]
    obtain ⟨b1, b2, b3, b4, b5⟩ := hw i h1 (by omega)
    exact ⟨b1, b2, b3, b4, by omega⟩
/-- the class's cells with one more -/
def adT (h : mM) (b : Nat) (n x nm : Int) : mM := upM (upM (upM (upM (upM (upM (upM h (b + 2) n x) (b + 3) n 1) (b + 4) n 0) (b + 5) n 2) (b + 6) n (-1)) (b + 7) n nm) b 0 (n + 1)
theorem t_add {xs : List Int} {d : Nat} {b : Nat} {c : Kc} {h : mM} (hb : b = 12 ∨ b = 38) (k : CoT b c h) (h7 : 0 ≤ c 0 0 ∧ c 0 0 < 7) (x nm : Int) : C xs d 230 0 [mR b, mI x, mL nm] h = some ([mI (c 0 0)], adT h b (c 0 0) x nm) := by
  rw [c_Co_add xs d hb, k.n, show min (c 0 0) 6 = c 0 0 by omega]
  refine if_y (by omega) ?_
  refine if_y (by omega) ?_
  refine if_y (by omega) ?_
  refine if_y (by omega) ?_
  refine if_y (by omega) ?_
  refine if_y (by omega) ?_
  refine if_y (by omega) ?_
  rfl
theorem adT_co {b : Nat} {c : Kc} {h : mM} (k : CoT b c h) (h7 : 0 ≤ c 0 0) (x nm : Int) : CoT b (coC c x) (adT h b (c 0 0) x nm) := by
  have e0 : coC c x 0 0 = c 0 0 + 1 := if_pos rfl
  have e : ∀ f i, f = 1 ∨ f = 2 → coC c x f i = c f i := fun f i hf => by unfold coC; rw [if_neg (by omega), if_neg (by omega)]
  unfold CoT adT
  rw [e0, e 1 0 (by omega)]
  refine ⟨up_eq, ?_, fun i h1 h2 => ?_, fun i h1 h2 => ?_, fun i h1 h2 => ?_, fun i h1 h2 => ?_, fun i h1 h2 => ?_, fun i h1 h2 => ?_⟩
  · rw [up_at, if_neg (by omega), up_ne (by omega), up_ne (by omega), up_ne (by omega), up_ne (by omega), up_ne (by omega), up_ne (by omega)]; exact k.g
  · rw [up_ne (by omega), up_ne (by omega), up_ne (by omega), up_ne (by omega), up_ne (by omega), up_ne (by omega), up_ne (by omega), e 2 i (by omega)]; exact k.r i h1 h2
  · rw [up_ne (by omega), up_ne (by omega), up_ne (by omega), up_ne (by omega), up_ne (by omega), up_ne (by omega), up_at]
    unfold coC
    by_cases q : i = c 0 0
    · rw [if_pos q, if_neg (by omega), if_pos ⟨q, by omega⟩]; rfl
    · rw [if_neg q, if_neg (by omega), if_neg (fun z => q z.1)]; exact k.p i h1 (by omega)
  · rw [up_ne (by omega), up_ne (by omega), up_ne (by omega), up_ne (by omega), up_ne (by omega), up_at, up_ne (by omega)]
    unfold coC
    by_cases q : i = c 0 0
    · rw [if_pos q, if_neg (by omega), if_pos ⟨q, by omega⟩]; rfl
    · rw [if_neg q, if_neg (by omega), if_neg (fun z => q z.1)]; exact k.m i h1 (by omega)
  · rw [up_ne (by omega), up_ne (by omega), up_ne (by omega), up_ne (by omega), up_at, up_ne (by omega), up_ne (by omega)]
    unfold coC
    by_cases q : i = c 0 0
    · rw [if_pos q, if_neg (by omega), if_pos ⟨q, by omega⟩]; rfl
    · rw [if_neg q, if_neg (by omega), if_neg (fun z => q z.1)]; exact k.w i h1 (by omega)
  · rw [up_ne (by omega), up_ne (by omega), up_ne (by omega), up_at, up_ne (by omega), up_ne (by omega), up_ne (by omega)]
    unfold coC
    by_cases q : i = c 0 0
    · rw [if_pos q, if_neg (by omega), if_pos ⟨q, by omega⟩]; rfl
    · rw [if_neg q, if_neg (by omega), if_neg (fun z => q z.1)]; exact k.l i h1 (by omega)
  · rw [up_ne (by omega), up_ne (by omega), up_at, up_ne (by omega), up_ne (by omega), up_ne (by omega), up_ne (by omega)]
    unfold coC
    by_cases q : i = c 0 0
    · rw [if_pos q, if_neg (by omega), if_pos ⟨q, by omega⟩]; rfl
    · rw [if_neg q, if_neg (by omega), if_neg (fun z => q z.1)]; exact k.q i h1 (by omega)
theorem adT_ne {h : mM} {b : Nat} {n x nm : Int} {a : Nat} (ha : a < b ∨ b + 7 < a ∨ a = b + 1) : adT h b n x nm a = h a := by
  unfold adT
  rw [up_row (by omega), up_row (by omega), up_row (by omega), up_row (by omega), up_row (by omega), up_row (by omega), up_row (by omega)]
theorem adT_nm {h : mM} {b : Nat} {n x nm : Int} (p : Int) : adT h b n x nm (b + 7) p = if p = n then nm else h (b + 7) p := by
  unfold adT
  rw [up_ne (by omega), up_at]
  by_cases q : p = n
  · rw [if_pos q, if_pos q]
  · rw [if_neg q, if_neg q, up_ne (by omega), up_ne (by omega), up_ne (by omega), up_ne (by omega), up_ne (by omega)]
theorem q_come {xs : List Int} {d : Nat} {h : mM} (R : Rel h) (x : Int) : QI xs d h 25 156 [mI x] := by
  obtain ⟨c, k⟩ := R.co
  have kT := k.1
  have kM := CoM.z.mp k.2.1
  have w := k.2.2.1
  have hg := k.2.2.2.1
  have hn := w.1
  by_cases q : 0 ≤ x ∧ x ≤ 59
  rotate_left
  · refine QI.ans R 1 (-1) ?_ ?_
    · rw [c_T_come]
      refine cI_of (t_within) ?_
      rw [if_pos (b2i_0.mpr q)]
      refine cI_of (c_T_refuse xs d _ h) ?_
      rfl
    · rw [c_M_come]
      refine cI_of (m_isFrom) ?_
      rw [if_pos (b2i_0.mpr q)]
      refine cI_of (c_M_refuse xs d _ _) ?_
      rfl
  have tF : C xs d 229 0 [mR 12] h = some ([mI (b2i (¬ c 0 0 < 7))], h) := by
    rw [c_Co_isFull xs d (by omega), show h 12 0 = c 0 0 from kT.n]
    by_cases q2 : c 0 0 < 7
    · rw [if_pos q2, b2i_n (fun z => z q2)]
    · rw [if_neg q2, b2i_y q2]
  by_cases q2 : c 0 0 < 7
  rotate_left
  · refine QI.ans R 4 (-1) ?_ ?_
    · rw [c_T_come]
      refine cI_of (t_within) ?_
      rw [if_neg (fun z => b2i_0.mp z q)]
      refine cI_of (tF) ?_
      rw [if_neg (fun z => b2i_0.mp z q2)]
      refine cI_of (c_T_refuse xs d _ h) ?_
      rfl
    · rw [c_M_come]
      refine cI_of (m_isFrom) ?_
      rw [if_neg (fun z => b2i_0.mp z q), (kM.z0 4).n, if_pos (by omega)]
      refine cI_of (c_M_refuse xs d _ _) ?_
      rfl
  have e131 : adT h 12 (c 0 0) x 0 131 = h 131 := adT_ne (by omega)
  have kM1 : CoM c (upM (adT h 12 (c 0 0) x 0) 0 0 0) := kM.mv (by rw [up_row (by omega), e131])
  generalize hG : upM (adT h 12 (c 0 0) x 0) 0 0 0 = G at kM1
  have gr : ∀ a, a ≠ 0 → G a = adT h 12 (c 0 0) x 0 a := fun a ha => by rw [← hG, up_row ha]
  have g0 : ∀ i, i ≠ 0 → G 0 i = h 0 i := fun i hi => by rw [← hG, up_at, if_neg hi, adT_ne (by omega)]
  have g00 : G 0 0 = 0 := by rw [← hG, up_eq]
  generalize hE : upM (upM (upM (upM (upM (upM (upM G 131 0 (c 0 0 + 1)) 131 (10 + 5 * c 0 0) x) 131 (10 + 5 * c 0 0 + 1) 1) 131 (10 + 5 * c 0 0 + 2) 0) 131 (10 + 5 * c 0 0 + 3) 2) 131 (10 + 5 * c 0 0 + 4) (-1)) 132 (c 0 0) 0 = E
  have er : ∀ a, a ≠ 131 → a ≠ 132 → E a = G a := fun a h1 h2 => by rw [← hE, up_row h2, up_row h1, up_row h1, up_row h1, up_row h1, up_row h1, up_row h1]
  have e1 : ∀ i, i ≠ 0 → (i < 10 + 5 * c 0 0 ∨ 10 + 5 * c 0 0 + 4 < i) → E 131 i = h 131 i := fun i h0 hi => by
    rw [← hE, up_ne (by omega), up_at, if_neg (by omega), up_at, if_neg (by omega), up_at, if_neg (by omega), up_at, if_neg (by omega), up_at, if_neg (by omega), up_at, if_neg h0, gr 131 (by omega), e131]
  have e2 : ∀ i, i ≠ c 0 0 → E 132 i = h 132 i := fun i hi => by
    rw [← hE, up_at, if_neg hi, up_ne (by omega), up_ne (by omega), up_ne (by omega), up_ne (by omega), up_ne (by omega), up_ne (by omega), gr 132 (by omega), adT_ne (by omega)]
  have kM2 : CoM (coC c x) E := by
    have e0 : coC c x 0 0 = c 0 0 + 1 := if_pos rfl
    have ee : ∀ f i, f = 1 ∨ f = 2 → coC c x f i = c f i := fun f i hf => by unfold coC; rw [if_neg (by omega), if_neg (by omega)]
    have v : ∀ f i, i = c 0 0 → 3 ≤ f → coC c x f i = (if f = 3 then x else if f = 4 then 1 else if f = 5 then 0 else if f = 6 then 2 else -1) := fun f i q hf => by unfold coC; rw [if_neg (by omega), if_pos ⟨q, hf⟩]
    have vn : ∀ f i, i ≠ c 0 0 → 3 ≤ f → coC c x f i = c f i := fun f i q hf => by unfold coC; rw [if_neg (by omega), if_neg (fun z => q z.1)]
    unfold CoM
    rw [e0, ee 1 0 (by omega)]
    refine ⟨?_, ?_, fun i h1 h2 => ?_, fun i h1 h2 => ?_, fun i h1 h2 => ?_, fun i h1 h2 => ?_, fun i h1 h2 => ?_, fun i h1 h2 => ?_⟩
    · rw [← hE, up_ne (by omega), up_at, if_neg (by omega), up_at, if_neg (by omega), up_at, if_neg (by omega), up_at, if_neg (by omega), up_at, if_neg (by omega), up_eq]
    · rw [e1 7 (by omega) (by omega)]; exact kM.g
    · rw [e1 i (by omega) (by omega), ee 2 i (by omega)]; exact kM.r i h1 h2
    · by_cases z : i = c 0 0
      · rw [v 3 i z (by omega), z, ← hE, up_ne (by omega), up_at, if_neg (by omega), up_at, if_neg (by omega), up_at, if_neg (by omega), up_at, if_neg (by omega), up_at, if_pos (by omega)]; rfl
      · rw [vn 3 i z (by omega), e1 _ (by omega) (by omega)]; exact kM.p i h1 (by omega)
    · by_cases z : i = c 0 0
      · rw [v 4 i z (by omega), z, ← hE, up_ne (by omega), up_at, if_neg (by omega), up_at, if_neg (by omega), up_at, if_neg (by omega), up_at, if_pos (by omega)]; rfl
      · rw [vn 4 i z (by omega), e1 _ (by omega) (by omega)]; exact kM.m i h1 (by omega)
    · by_cases z : i = c 0 0
      · rw [v 5 i z (by omega), z, ← hE, up_ne (by omega), up_at, if_neg (by omega), up_at, if_neg (by omega), up_at, if_pos (by omega)]; rfl
      · rw [vn 5 i z (by omega), e1 _ (by omega) (by omega)]; exact kM.w i h1 (by omega)
    · by_cases z : i = c 0 0
      · rw [v 6 i z (by omega), z, ← hE, up_ne (by omega), up_at, if_neg (by omega), up_at, if_pos (by omega)]; rfl
      · rw [vn 6 i z (by omega), e1 _ (by omega) (by omega)]; exact kM.l i h1 (by omega)
    · by_cases z : i = c 0 0
      · rw [v 7 i z (by omega), z, ← hE, up_ne (by omega), up_at, if_pos (by omega)]; rfl
      · rw [vn 7 i z (by omega), e1 _ (by omega) (by omega)]; exact kM.q i h1 (by omega)
  have fin : ∀ a, a ≠ 130 → upM E 130 2 0 a = E a := fun a ha => up_row ha
  refine ⟨c 0 0, G, upM E 130 2 0, ?_, ?_, ?_⟩
  · rw [c_T_come]
    refine cI_of (t_within) ?_
    rw [if_neg (fun z => b2i_0.mp z q)]
    refine cI_of (tF) ?_
    rw [if_pos (b2i_0.mpr (fun z => z q2))]
    refine cI_of (t_add (by omega) kT (by omega) x 0) ?_
    refine cI_of (c_T_answer xs d _ _) ?_
    rw [← hG]
  · rw [c_M_come]
    refine cI_of (m_isFrom) ?_
    rw [if_neg (fun z => b2i_0.mp z q), kM1.n]
    refine if_n (by omega) ?_
    refine cI_of (m_personRow (by omega)) ?_
    rw [kM1.n]
    refine if_y (by omega) ?_
    refine if_y (by omega) ?_
    refine if_y (by omega) ?_
    refine if_y (by omega) ?_
    refine if_y (by omega) ?_
    refine if_y (by omega) ?_
    refine if_y (by omega) ?_
    refine if_y (by omega) ?_
    refine if_y (by omega) ?_
    refine if_y (by omega) ?_
    refine if_y (by omega) ?_
    rw [hE]
    refine cI_of (c_M_gives xs d _ _) ?_
    rfl
  · have ek : ∀ a, a ≠ 131 → a ≠ 132 → a ≠ 130 → a ≠ 0 → (a < 12 ∨ 19 < a) → upM E 130 2 0 a = h a := fun a h1 h2 h3 h4 h5 => by rw [fin a h3, er a h1 h2, gr a h4, adT_ne (by omega)]
    have e0k : ∀ i, i ≠ 0 → upM E 130 2 0 0 i = h 0 i := fun i hi => by rw [fin 0 (by omega), er 0 (by omega) (by omega), g0 i hi]
    have e3k : ∀ i, i ≠ 2 → upM E 130 2 0 130 i = h 130 i := fun i hi => by rw [up_at, if_neg hi, er 130 (by omega) (by omega), gr 130 (by omega), adT_ne (by omega)]
    refine R.gen (c' := coC c x) ⟨?_, ?_, coC_wf w q q2, ?_, ?_, ?_⟩ ?_ ?_ ?_ ?_ ?_ (fun a ha => ?_) (fun i h1 h2 => ?_) (fun i h1 h2 => ?_) (e3k 45 (by omega))
    · exact (adT_co kT hn.1 x 0).mv (fun a h1 h2 => by rw [fin a (by omega), er a (by omega) (by omega), gr a (by omega)])
    · exact CoM.z.mpr (kM2.mv (fin 131 (by omega)))
    · rw [show coC c x 1 0 = c 1 0 by unfold coC; rw [if_neg (by omega), if_neg (by omega)]]; exact hg
    · rw [show coC c x 0 0 = c 0 0 + 1 from if_pos rfl]
      intro p h1 h2
      have ea : upM E 130 2 0 (12 + 7) p = if p = c 0 0 then 0 else h 19 p := by rw [fin _ (by omega), er _ (by omega) (by omega), gr _ (by omega), adT_nm]
      have eb : upM E 130 2 0 132 (0 + p) = if p = c 0 0 then 0 else h 132 (0 + p) := by
        rw [fin 132 (by omega), Int.zero_add]
        by_cases z : p = c 0 0
        · rw [if_pos z, z, ← hE, up_eq]
        · rw [if_neg z, e2 p z]
      by_cases z : p = c 0 0
      · exact ⟨[], ⟨by simp, by simp⟩, ea.trans (if_pos z), eb.trans (if_pos z)⟩
      · obtain ⟨ww, w1, w2, w3⟩ := k.2.2.2.2.1 p h1 (by omega)
        exact ⟨ww, w1, (ea.trans (if_neg z)).trans w2, (eb.trans (if_neg z)).trans w3⟩
    · refine (k.2.2.2.2.2.mv (fun a h1 h2 => ek a (by omega) (by omega) (by omega) (by omega) (by omega)) (fun j hj => ?_)).n (by rw [show coC c x 0 0 = c 0 0 + 1 from if_pos rfl]; omega)
      rw [Int.zero_add, fin 131 (by omega), e1 j (by omega) (by omega)]
    · rw [fin 0 (by omega), er 0 (by omega) (by omega), g00, up_eq]
    · rw [e0k 1 (by omega), e0k 2 (by omega), e3k 3 (by omega), e3k 4 (by omega)]; exact R.2.1
    · rw [ek 9 (by omega) (by omega) (by omega) (by omega) (by omega), ek 10 (by omega) (by omega) (by omega) (by omega) (by omega), ek 136 (by omega) (by omega) (by omega) (by omega) (by omega), e3k 10 (by omega)]; exact R.2.2.2.1
    · rw [ek 9 (by omega) (by omega) (by omega) (by omega) (by omega), e3k 16 (by omega), e3k 17 (by omega)]; exact R.2.2.2.2.1
    · rw [ek 107 (by omega) (by omega) (by omega) (by omega) (by omega), ek 152 (by omega) (by omega) (by omega) (by omega) (by omega), e0k 3 (by omega), e3k 44 (by omega)]; exact R.2.2.2.2.2.2.2.1
    · exact ek a (fun z => by subst z; exact absurd ha (by decide)) (fun z => by subst z; exact absurd ha (by decide)) (fun z => by subst z; exact absurd ha (by decide)) (fun z => by subst z; exact absurd ha (by decide)) (by
        by_cases z : a < 12 ∨ 19 < a
        · exact z
        · have : a = 12 ∨ a = 13 ∨ a = 14 ∨ a = 15 ∨ a = 16 ∨ a = 17 ∨ a = 18 ∨ a = 19 := by omega
          rcases this with rfl | rfl | rfl | rfl | rfl | rfl | rfl | rfl <;> exact absurd ha (by decide))
    · rw [fin 132 (by omega), e2 i (by omega)]
    · rw [fin 131 (by omega), e1 i (by omega) (by omega)]
