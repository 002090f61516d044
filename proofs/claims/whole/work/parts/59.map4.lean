/-! EQUIV 29: map -/
def plV (j : Int) : Int := if j = 1 then 12 else if j = 2 then 4 else if j = 3 then 20 else if j = 4 then 5 else if j = 5 then 10 else if j = 6 then 1 else if j = 8 then -1 else 0
/-- a company of nobody -/
def kc0 : Kc := fun f i => if f = 2 then plV i else 0
theorem kc0_wf : WfC kc0 := by
  unfold WfC
  refine ⟨by decide, by decide, by decide, by decide, by decide, by decide, by decide, by decide, fun i h1 h2 => ?_⟩
  have : kc0 0 0 = 0 := rfl
  omega
section
variable {xs : List Int} {d : Nat} {h g : mM}
theorem m_plain {s : Int} (hs : 0 ≤ s ∧ s ≤ 1932) : ∃ g', C xs d 77 0 [mR 130, mI s] g = some ([], g') ∧ (∀ a, a ≠ 131 → g' a = g a) ∧ (∀ j, (j < s ∨ s + 414 ≤ j) → g' 131 j = g 131 j) ∧ ∀ j, 0 ≤ j → j < 414 → g' 131 (s + j) = plV j := by
  rw [c_M_plain]
  have key : ∀ (m i : Nat) (k : mM), i + m = 414 → (∀ a, a ≠ 131 → k a = g a) → (∀ j, (j < s ∨ s + 414 ≤ j) → k 131 j = g 131 j) → (∀ j, 0 ≤ j → j < (i : Int) → k 131 (s + j) = 0) → ∃ g', X xs d k_M_plain 2 [mR 130, mI s, mI (i : Int)] [] k = some ([], g') ∧ (∀ a, a ≠ 131 → g' a = g a) ∧ (∀ j, (j < s ∨ s + 414 ≤ j) → g' 131 j = g 131 j) ∧ ∀ j, 0 ≤ j → j < 414 → g' 131 (s + j) = plV j := by
    intro m
    induction m with
    | zero =>
      intro i k hi k1 k2 k3
      obtain rfl : i = 414 := by omega
      refine ⟨upM (upM (upM (upM (upM (upM (upM k 131 (s + 1) 12) 131 (s + 2) 4) 131 (s + 3) 20) 131 (s + 4) 5) 131 (s + 5) 10) 131 (s + 6) 1) 131 (s + 8) (-1), ?_, fun a ha => ?_, fun j hj => ?_, fun j h1 h2 => ?_⟩
      · rw [e_M_plain_2]
        refine if_n (by omega) ?_
        refine if_y (by omega) ?_
        refine if_y (by omega) ?_
        refine if_y (by omega) ?_
        refine if_y (by omega) ?_
        refine if_y (by omega) ?_
        refine if_y (by omega) ?_
        refine if_y (by omega) ?_
        refine if_y (by omega) ?_
        refine if_y (by omega) ?_
        refine if_y (by omega) ?_
        refine if_y (by omega) ?_
        refine if_y (by omega) ?_
        refine if_y (by omega) ?_
        refine if_y (by omega) ?_
        rfl
      · rw [up_row ha, up_row ha, up_row ha, up_row ha, up_row ha, up_row ha, up_row ha]
        exact k1 a ha
      · rw [up_at, if_neg (by omega), up_at, if_neg (by omega), up_at, if_neg (by omega), up_at, if_neg (by omega), up_at, if_neg (by omega), up_at, if_neg (by omega), up_at, if_neg (by omega)]
        exact k2 j hj
      · rw [up_at, up_at, up_at, up_at, up_at, up_at, up_at]
        unfold plV
        by_cases z8 : j = 8
        · rw [if_pos (by omega), z8]; decide
        rw [if_neg (by omega)]
        by_cases z6 : j = 6
        · rw [if_pos (by omega), z6]; decide
        rw [if_neg (by omega)]
        by_cases z5 : j = 5
        · rw [if_pos (by omega), z5]; decide
        rw [if_neg (by omega)]
        by_cases z4 : j = 4
        · rw [if_pos (by omega), z4]; decide
        rw [if_neg (by omega)]
        by_cases z3 : j = 3
        · rw [if_pos (by omega), z3]; decide
        rw [if_neg (by omega)]
        by_cases z2 : j = 2
        · rw [if_pos (by omega), z2]; decide
        rw [if_neg (by omega)]
        by_cases z1 : j = 1
        · rw [if_pos (by omega), z1]; decide
        rw [if_neg (by omega), k3 j h1 (by omega), if_neg z1, if_neg z2, if_neg z3, if_neg z4, if_neg z5, if_neg z6, if_neg z8]
    | succ m ih =>
      intro i k hi k1 k2 k3
      obtain ⟨g', r1, r2⟩ := ih (i + 1) (upM k 131 (s + (i : Int)) 0) (by omega) (fun a ha => by rw [up_row ha]; exact k1 a ha) (fun j hj => by rw [up_at, if_neg (by omega)]; exact k2 j hj) (fun j h1 h2 => by
        rw [up_at]
        by_cases z : j = (i : Int)
        · rw [if_pos (by omega)]
        · rw [if_neg (by omega)]; exact k3 j h1 (by omega))
      refine ⟨g', ?_, r2⟩
      rw [e_M_plain_2]
      refine if_y (by omega) ?_
      refine if_y (by omega) ?_
      refine if_y (by omega) ?_
      refine if_y (by omega) ?_
      exact r1
  exact key 414 0 g (by omega) (fun _ _ => rfl) (fun _ _ => rfl) (fun j h1 h2 => by omega)
/-- a text as it is handed over -/
abbrev txH (h : mM) (i : Nat) : Int := if h 10 (i : Int) < 0 then h 10 (i : Int) + 256 else h 10 (i : Int)
theorem and255 {b : Int} (h : inB b) : fAnd b 255 = if b < 0 then b + 256 else b := by
  have p1 : ∀ x, x < 128 → fAnd ((x : Nat) : Int) 255 = (x : Int) := by decide +kernel
  have p2 : ∀ x, x < 128 → fAnd (-((x : Nat) : Int) - 1) 255 = 255 - (x : Int) := by decide +kernel
  unfold inB at h
  by_cases z : b < 0
  · rw [if_pos z]
    have := p2 (-b - 1).toNat (by omega)
    rw [show -(((-b - 1).toNat : Nat) : Int) - 1 = b by omega] at this
    rw [this]
    omega
  · rw [if_neg z]
    have := p1 b.toNat (by omega)
    rwa [show ((b.toNat : Nat) : Int) = b by omega] at this
theorem m_begins {n most : Int} (h1 : 0 ≤ n) (h2 : n ≤ g 130 10) (h3 : n ≤ most) (h4 : n ≤ 900) (hb : ∀ i, 0 ≤ i → i < n → inB (g 136 i)) : ∃ G, C xs d 102 0 [mR 130, mI n, mI most] g = cV (C xs d 98 0 [mR 130] G) (fun h1 => some ([mI 1], h1)) ∧ (∀ a, a ≠ 130 → a ≠ 137 → G a = g a) ∧ (∀ j, j ≠ 10 → j ≠ 11 → j ≠ 14 → j ≠ 17 → j ≠ 18 → j ≠ 19 → G 130 j = g 130 j) ∧ G 130 10 = 0 ∧ G 130 11 = n ∧ G 130 14 = 0 ∧ G 130 17 = -1 ∧ G 130 18 = 0 ∧ ∀ i, 0 ≤ i → i < n → G 137 i = g 136 i := by
  obtain ⟨m, rfl⟩ : ∃ m : Nat, n = (m : Int) := ⟨n.toNat, by omega⟩
  have key : ∀ (q i : Nat) (k : mM), i + q = m → (∀ a, a ≠ 130 → a ≠ 137 → k a = g a) → (∀ j, j ≠ 11 → k 130 j = g 130 j) → k 130 11 = (m : Int) → (∀ j, 0 ≤ j → j < (i : Int) → k 137 j = g 136 j) → ∃ G, X xs d k_M_begins 16 [mR 130, mI (m : Int), mI most, mI (i : Int)] [] k = cV (C xs d 98 0 [mR 130] G) (fun h1 => some ([mI 1], h1)) ∧ (∀ a, a ≠ 130 → a ≠ 137 → G a = g a) ∧ (∀ j, j ≠ 10 → j ≠ 11 → j ≠ 14 → j ≠ 17 → j ≠ 18 → j ≠ 19 → G 130 j = g 130 j) ∧ G 130 10 = 0 ∧ G 130 11 = (m : Int) ∧ G 130 14 = 0 ∧ G 130 17 = -1 ∧ G 130 18 = 0 ∧ ∀ i, 0 ≤ i → i < (m : Int) → G 137 i = g 136 i := by
    intro q
    induction q with
    | zero =>
      intro i k hi k1 k2 k3 k4
      obtain rfl : i = m := by omega
      refine ⟨upM (upM (upM (upM (upM k 130 10 0) 130 18 0) 130 17 (-1)) 130 14 0) 130 19 0, ?_, fun a a1 a2 => ?_, fun j j1 j2 j3 j4 j5 j6 => ?_, ?_, ?_, ?_, ?_, ?_, fun j j1 j2 => ?_⟩
      · rw [e_M_begins_16, if_neg (by omega)]
      · rw [up_row a1, up_row a1, up_row a1, up_row a1, up_row a1]
        exact k1 a a1 a2
      · rw [up_at, if_neg j6, up_at, if_neg j3, up_at, if_neg j4, up_at, if_neg j5, up_at, if_neg j1]
        exact k2 j j2
      · rw [up_at, if_neg (by omega), up_at, if_neg (by omega), up_at, if_neg (by omega), up_at, if_neg (by omega), up_eq]
      · rw [up_at, if_neg (by omega), up_at, if_neg (by omega), up_at, if_neg (by omega), up_at, if_neg (by omega), up_at, if_neg (by omega)]
        exact k3
      · rw [up_at, if_neg (by omega), up_eq]
      · rw [up_at, if_neg (by omega), up_at, if_neg (by omega), up_eq]
      · rw [up_at, if_neg (by omega), up_at, if_neg (by omega), up_at, if_neg (by omega), up_eq]
      · rw [up_ne (by omega), up_ne (by omega), up_ne (by omega), up_ne (by omega), up_ne (by omega)]
        exact k4 j j1 j2
    | succ q ih =>
      intro i k hi k1 k2 k3 k4
      have e136 : k 136 (i : Int) = g 136 (i : Int) := by rw [k1 136 (by omega) (by omega)]
      have bb := hb (i : Int) (by omega) (by omega)
      obtain ⟨G, r1, r2⟩ := ih (i + 1) (upM k 137 (i : Int) (g 136 (i : Int))) (by omega) (fun a a1 a2 => by rw [up_row a2]; exact k1 a a1 a2) (fun j hj => by rw [up_ne (by omega)]; exact k2 j hj) (by rw [up_ne (by omega)]; exact k3) (fun j j1 j2 => by
        rw [up_at]
        by_cases z : j = (i : Int)
        · rw [if_pos z, z]
        · rw [if_neg z]; exact k4 j j1 (by omega))
      refine ⟨G, ?_, r2⟩
      rw [e_M_begins_16, e136]
      refine if_y (by omega) ?_
      refine if_y (by omega) ?_
      refine if_y (by omega) ?_
      refine if_y (bb) ?_
      refine if_y (by omega) ?_
      exact r1
  obtain ⟨G, r1, r2⟩ := key m 0 (upM g 130 11 (m : Int)) (by omega) (fun a a1 a2 => up_row a1) (fun j hj => by rw [up_at, if_neg hj]) up_eq (fun j j1 j2 => by omega)
  refine ⟨G, ?_, r2⟩
  rw [c_M_begins, if_neg (by omega), if_neg (by omega), if_neg (by omega)]
  exact r1
theorem m_beginsNo {n most : Int} (hn : ¬ (0 ≤ n ∧ n ≤ g 130 10 ∧ n ≤ most)) : C xs d 102 0 [mR 130, mI n, mI most] g = some ([mI 0], g) := by
  rw [c_M_begins]
  by_cases z : n < 0
  · rw [if_pos z]
  rw [if_neg z]
  by_cases y : g 130 10 < n
  · rw [if_pos y]
  rw [if_neg y, if_pos (by omega)]
/-- both begin with a text -/
theorem p_start {gT gM : mM} {n : Nat} {most : Int} (hN : n ≤ 900) (hm : (n : Int) ≤ most) (l1 : (n : Int) ≤ gT 9 2) (l2 : (n : Int) ≤ gM 130 10) (hb : ∀ i, 0 ≤ i → i < (n : Int) → gT 10 i = gM 136 i ∧ inB (gT 10 i)) (hw : ∀ i, 1 ≤ i → i ≤ 23 → gT 11 i = (nth WL i.toNat).getD 0) : ∃ HM gT' gM' k f e, C xs d 300 0 [mR 9, mI (n : Int)] gT = some ([], gT') ∧ C xs d 102 0 [mR 130, mI (n : Int), mI most] gM = some ([mI 1], gM') ∧ RdS (upM gT 9 3 (n : Int)) HM (txH gT) n k f e gT' gM' ∧ (∀ a, a ≠ 9 → gT' a = gT a) ∧ (∀ a, a ≠ 130 → gM' a = HM a) ∧ (∀ a, a ≠ 130 → a ≠ 137 → HM a = gM a) ∧ (∀ j, (j < 10 ∨ j = 16 ∨ 23 < j) → HM 130 j = gM 130 j) ∧ HM 130 10 = 0 := by
  obtain ⟨G, r1, r2, r3, r4, r5, r6, r7, r8, r9⟩ := m_begins (xs := xs) (d := d) (g := gM) (n := (n : Int)) (most := most) (by omega) l2 hm (by omega) (fun i a b => by rw [← (hb i a b).1]; exact (hb i a b).2)
  have tx1 : TxM (txH gT) n G := by
    refine ⟨r5, fun i hi => ?_⟩
    obtain ⟨b1, b2⟩ := hb (i : Int) (by omega) (by omega)
    rw [r9 _ (by omega) (by omega), ← b1, and255 b2]
    unfold inB at b2
    refine ⟨rfl, ?_, ?_⟩ <;> (unfold txH; split <;> omega)
  generalize hg : upM (upM (upM (upM gT 9 3 (n : Int)) 9 4 0) 9 11 0) 9 12 (-1) = g0
  have gr : ∀ a, a ≠ 9 → g0 a = gT a := fun a ha => by rw [← hg, up_row ha, up_row ha, up_row ha, up_row ha]
  have g3 : g0 9 3 = (n : Int) := by rw [← hg, up_at, if_neg (by omega), up_at, if_neg (by omega), up_at, if_neg (by omega), up_eq]
  have g4 : g0 9 4 = ((0 : Nat) : Int) := by rw [← hg, up_at, if_neg (by omega), up_at, if_neg (by omega), up_eq]; rfl
  have g11 : g0 9 11 = 0 := by rw [← hg, up_at, if_neg (by omega), up_eq]
  have g12 : g0 9 12 = -1 := by rw [← hg, up_eq]
  have g2 : g0 9 2 = gT 9 2 := by rw [← hg, up_at, if_neg (by omega), up_at, if_neg (by omega), up_at, if_neg (by omega), up_at, if_neg (by omega)]
  have tt : TxT (txH gT) n g0 := by
    refine ⟨g3, fun i hi => ?_⟩
    have b2 := (hb (i : Int) (by omega) (by omega)).2
    unfold inB at b2
    rw [gr 10 (by omega)]
    exact ⟨by omega, rfl⟩
  have hw0 : ∀ i, 1 ≤ i → i ≤ 23 → g0 11 i = (nth WL i.toNat).getD 0 := fun i a b => by rw [gr 11 (by omega)]; exact hw i a b
  obtain ⟨gT', s1, s2, s3⟩ := t_step (xs := xs) (d := d) hw0 tt hN (Nat.zero_le n) g4
  obtain ⟨gM', u1, u2, u3⟩ := m_ahead (xs := xs) (d := d) tx1 hN (Nat.zero_le n) (by rw [r6]; rfl)
  have fl := runN_le (P := isB) (tx := txH gT) (n - 0) 0
  refine ⟨G, gT', gM', _, _, _, ?_, ?_, ⟨tt.f s3, tx1.f u3, hN, s2, u2, tkF_W (by unfold frP; omega), fun i a b => by rw [s3.1 11 (by omega)]; exact hw0 i a b, by rw [s3.2 11 (by omega), s3.2 12 (by omega)]; exact ⟨g11, g12⟩, by rw [u3.2 18 (by omega), u3.2 17 (by omega)]; exact ⟨r8, r7⟩, ?_, ?_⟩, fun a ha => by rw [s3.1 a ha, gr a ha], fun a ha => u3.1 a ha, r2, fun j hj => r3 j (by omega) (by omega) (by omega) (by omega) (by omega) (by omega), r4⟩
  · rw [c_Tp_begin, show min (n : Int) (gT 9 2) = (n : Int) by omega, hg]
    refine cV_of (s1) ?_
    rfl
  · rw [r1, u1]
    rfl
  · refine ⟨fun a a1 a2 => by rw [s3.1 a a1, gr a a1, up_row a1], fun j hj => ?_⟩
    rw [s3.2 j (by omega)]
    rcases hj with rfl | rfl
    · rw [g2, up_at, if_neg (by omega)]
    · rw [g3, up_eq]
  · exact ⟨fun a a1 _ _ _ => u3.1 a a1, fun j hj => u3.2 j (by omega), fun j _ => by rw [u3.1 131 (by omega)], fun j _ => by rw [u3.1 132 (by omega)]⟩
theorem RdS.repM {hT hM : mM} {tx : Nat → Int} {N : Nat} {gT gM : mM} {k : Tk} {f e : Nat} (S : RdS hT hM tx N k f e gT gM) {g' : mM} (e0 : ∀ a, a ≠ 131 → g' a = gM a) (e1 : ∀ j, j < 1656 → g' 131 j = gM 131 j) : RdS hT hM tx N k f e gT g' := by
  obtain ⟨a1, a2, a3, a4, a5, a6, a7, a8, a9, a10, a11⟩ := S
  refine ⟨a1, ?_, a3, a4, ?_, a6, a7, a8, by rw [e0 130 (by omega)]; exact a9, a10, ⟨fun a h1 h2 h3 h4 => by rw [e0 a h2]; exact a11.1 a h1 h2 h3 h4, fun j hj => by rw [e0 130 (by omega)]; exact a11.2.1 j hj, fun j hj => by rw [e1 j hj]; exact a11.2.2.1 j hj, fun j hj => by rw [e0 132 (by omega)]; exact a11.2.2.2 j hj⟩⟩
  · unfold TxM
    rw [e0 130 (by omega), e0 137 (by omega)]
    exact a2
  · unfold TokM
    rw [e0 130 (by omega)]
    exact a5
theorem clear_lim : ∀ i, 1 ≤ i → i ≤ 6 → (nth (CT [] 4) (0 + (i - 0) : Int).toNat).getD 0 = plV i := by
  intro i h1 h2
  have : i = 1 ∨ i = 2 ∨ i = 3 ∨ i = 4 ∨ i = 5 ∨ i = 6 := by omega
  rcases this with rfl | rfl | rfl | rfl | rfl | rfl <;> decide
def MaR (h m0 gT gM : mM) (b : Int) : Prop := (∀ a, a ≠ 9 → (a < 37 ∨ 55 < a) → gT a = h a) ∧ gT 9 2 = h 9 2 ∧ (∀ a, a ≠ 130 → a ≠ 131 → a ≠ 132 → a ≠ 137 → a ≠ 138 → gM a = m0 a) ∧ (∀ j, (j < 10 ∨ j = 16 ∨ 23 < j) → gM 130 j = m0 130 j) ∧ gM 130 10 = 0 ∧ (∀ j, j < 1656 → gM 131 j = m0 131 j) ∧ (∀ j, j < 28 → gM 132 j = m0 132 j) ∧ (b = 1 ∨ b = 0) ∧ gT 9 11 = gM 130 18 ∧ gT 9 12 = gM 130 17 ∧ (b = 1 → gM 130 18 = 0) ∧ (b = 0 → 0 < gM 130 18)
theorem MaR.of {h m0 h2 gT gM HM : mM} {b : Int} (hb : b = 1 ∨ b = 0) (e2 : ∀ a, (a < 37 ∨ 55 < a) → h2 a = h a) (n : Int) (F1 : FrT (upM h2 9 3 n) gT) (F2 : FrM HM gM) (e3 : ∀ a, a ≠ 130 → a ≠ 137 → HM a = m0 a) (e4 : ∀ j, (j < 10 ∨ j = 16 ∨ 23 < j) → HM 130 j = m0 130 j) (e5 : HM 130 10 = 0) (q1 : gT 9 11 = gM 130 18) (q2 : gT 9 12 = gM 130 17) (q3 : b = 1 → gM 130 18 = 0) (q4 : b = 0 → 0 < gM 130 18) : MaR h m0 gT gM b := by
  refine ⟨fun a a1 a2 => by rw [F1.1 a a1 a2, up_row a1, e2 a a2], by rw [F1.2 2 (by omega), up_at, if_neg (by omega), e2 9 (by omega)], fun a a1 a2 a3 a4 a5 => by rw [F2.1 a a1 a2 a3 a5, e3 a a1 a4], fun j hj => by rw [F2.2.1 j (by omega), e4 j hj], by rw [F2.2.1 10 (by omega), e5], fun j hj => by rw [F2.2.2.1 j hj, e3 131 (by omega) (by omega)], fun j hj => by rw [F2.2.2.2 j hj, e3 132 (by omega) (by omega)], hb, q1, q2, q3, q4⟩
theorem map_sim {m0 : mM} {n : Nat} (hN : n ≤ 900) (l1 : (n : Int) ≤ h 9 2) (l2 : (n : Int) ≤ m0 130 10) (hb : ∀ i, 0 ≤ i → i < (n : Int) → h 10 i = m0 136 i ∧ inB (h 10 i)) (hw : ∀ i, 1 ≤ i → i ≤ 23 → h 11 i = (nth WL i.toNat).getD 0) : ∃ b gT gM, C xs d 282 0 [mR 37, mI (n : Int)] h = some ([mI b], gT) ∧ C xs d 120 0 [mR 130, mI (n : Int)] m0 = X xs d k_M_map 26 [mR 130, mI (n : Int), mI b, mC 0] [] gM ∧ MaR h m0 gT gM b ∧ (b = 1 → ∃ c', DrR c' gT gM) := by
  generalize hh1 : mCpyC (upM (upM h 38 0 0) 38 1 0) (CT xs 4) 0 39 0 7 = h1
  have h1r : ∀ a, a ≠ 38 → a ≠ 39 → h1 a = h a := fun a a1 a2 => by
    rw [← hh1]
    funext j
    unfold mCpyC
    rw [if_neg (fun z => a2 z.1), up_ne a1, up_ne a1]
  have T1 : CoT 38 kc0 h1 := by
    have z0 : kc0 0 0 = 0 := rfl
    refine ⟨?_, ?_, fun i a b => ?_, fun i a b => absurd b (by omega), fun i a b => absurd b (by omega), fun i a b => absurd b (by omega), fun i a b => absurd b (by omega), fun i a b => absurd b (by omega)⟩
    · rw [← hh1]
      unfold mCpyC
      rw [if_neg (fun z => absurd z.1 (by omega)), up_at, if_neg (by omega), up_eq]
      rfl
    · rw [← hh1]
      unfold mCpyC
      rw [if_neg (fun z => absurd z.1 (by omega)), up_eq]
      rfl
    · rw [← hh1]
      unfold mCpyC
      rw [if_pos ⟨rfl, by omega, by omega⟩]
      exact clear_lim i a b
  generalize hh2 : upM h1 37 2 0 = h2
  have h2r : ∀ a, a ≠ 37 → a ≠ 38 → a ≠ 39 → h2 a = h a := fun a a1 a2 a3 => by rw [← hh2, up_row a1]; exact h1r a a2 a3
  obtain ⟨HM, g0, n0, k, f, e, r1, r2, S0, r3, r4, r5, r6, r7⟩ := p_start (xs := xs) (d := d) (gT := h2) (gM := m0) (n := n) (most := 900) hN (by omega) (by rw [h2r 9 (by omega) (by omega) (by omega)]; exact l1) l2 (fun i a b => by rw [h2r 10 (by omega) (by omega) (by omega)]; exact hb i a b) (fun i a b => by rw [h2r 11 (by omega) (by omega) (by omega)]; exact hw i a b)
  obtain ⟨n1, p1, p2, p3, p4⟩ := m_plain (xs := xs) (d := d) (g := n0) (s := 1656) (by omega)
  have S1 : RdS (upM h2 9 3 (n : Int)) HM (txH h2) n k f e g0 (upM n1 130 20 0) := (S0.repM p2 (fun j hj => p3 j (by omega))).u130 (by omega)
  have D1 : DrR kc0 g0 (upM n1 130 20 0) := by
    have z0 : kc0 0 0 = 0 := rfl
    have T2 : CoT 38 kc0 g0 := T1.mv (fun a a1 a2 => by rw [r3 a (by omega), ← hh2, up_row (by omega)])
    have pv : ∀ j, 0 ≤ j → j < 414 → shM (upM n1 130 20 0) 131 j = plV j := fun j a b => by
      show upM n1 130 20 0 131 (1656 + j) = _
      rw [up_ne (by omega)]
      exact p4 j a b
    refine ⟨T2, ⟨(pv 0 (by omega) (by omega)).trans rfl, (pv 7 (by omega) (by omega)).trans rfl, fun i a b => (pv i (by omega) (by omega)).trans rfl, fun i a b => absurd b (by omega), fun i a b => absurd b (by omega), fun i a b => absurd b (by omega), fun i a b => absurd b (by omega), fun i a b => absurd b (by omega)⟩, kc0_wf, rfl, fun p a b => absurd b (by omega), ?_⟩
    rw [up_ne (by omega)]
    exact (p4 8 (by omega) (by omega)).trans rfl
  have P1 : TpR 0 g0 (upM n1 130 20 0) := ⟨by omega, by rw [r3 37 (by omega), ← hh2, up_eq]; rfl, by rw [up_eq]; rfl⟩
  have runT : C xs d 282 0 [mR 37, mI (n : Int)] h = X xs d k_MR_readMap 12 [mR 37, mI (n : Int), mI 0] [] g0 := by
    rw [c_MR_readMap]
    refine cV_of (h := h1) ?_ ?_
    · rw [c_Co_clear, hh1]
      refine if_y (by omega) ?_
      rfl
    rw [hh2]
    refine cV_of (r1) ?_
    rfl
  have runM : C xs d 120 0 [mR 130, mI (n : Int)] m0 = X xs d k_M_map 17 [mR 130, mI (n : Int), mI 1, mC 0] [] (upM n1 130 20 0) := by
    rw [c_M_map]
    refine cI_of (r2) ?_
    rw [if_neg (by decide)]
    refine cV_of (p1) ?_
    rfl
  rw [runT, runM]
  have e2 : ∀ a, (a < 37 ∨ 55 < a) → h2 a = h a := fun a ha => h2r a (by omega) (by omega) (by omega)
  rcases p_parts (xs := xs) (d := d) (n : Int) (n + 1) 0 k f e g0 (upM n1 130 20 0) kc0 0 (by omega) (by omega) S1 D1 P1 with ⟨gT, gM, c', v1, v2, v3, v4, v5, v6, v7⟩ | ⟨gT, gM, v1, v2, v3, v4, v5, v6, v7⟩
  · exact ⟨1, gT, gM, v1, v2, MaR.of (Or.inl rfl) e2 (n : Int) v3 v4 r5 r6 r7 (by rw [v5.1, v6.1]) (by rw [v5.2, v6.2]) (fun _ => v6.1) (fun z => absurd z (by decide)), fun _ => ⟨c', v7⟩⟩
  · exact ⟨0, gT, gM, v1, v2, MaR.of (Or.inr rfl) e2 (n : Int) v3 v4 r5 r6 r7 v5 v6 (fun z => absurd z (by decide)) (fun _ => v7), fun z => absurd z (by decide)⟩
end
