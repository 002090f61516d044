/-! EQUIV 37: times are lived -/
/-- the times that are lived, as both have them -/
def TmR (R cN : Int) (gT gM : mM) : Prop := (0 ≤ R ∧ R ≤ 60) ∧ gT 30 6 = R ∧ gM 131 8 = R ∧ (∀ r, 0 ≤ r → r < R → StR cN r (gT 31 r) (gT 32 r) (gT 33 r) (gT 34 r) (gT 35 r) (gT 36 r) (gM 131 (46 + 6 * r)) (gM 131 (46 + 6 * r + 1)) (gM 131 (46 + 6 * r + 2)) (gM 131 (46 + 6 * r + 4)) (gM 131 (46 + 6 * r + 5))) ∧ Nst R (gT 31) (gT 36)
theorem TmR.mv {R cN : Int} {gT gM gT' gM' : mM} (M : TmR R cN gT gM) (e : ∀ a, 30 ≤ a → a ≤ 36 → gT' a = gT a) (e2 : ∀ j, (46 ≤ j ∨ j = 8) → gM' 131 j = gM 131 j) : TmR R cN gT' gM' := by
  obtain ⟨m1, m2, m3, m4, m5⟩ := M
  refine ⟨m1, by rw [e 30 (by omega) (by omega)]; exact m2, by rw [e2 8 (by omega)]; exact m3, fun r h1 h2 => ?_, by rw [e 31 (by omega) (by omega), e 36 (by omega) (by omega)]; exact m5⟩
  rw [e 31 (by omega) (by omega), e 32 (by omega) (by omega), e 33 (by omega) (by omega), e 34 (by omega) (by omega), e 35 (by omega) (by omega), e 36 (by omega) (by omega), e2 _ (by omega), e2 _ (by omega), e2 _ (by omega), e2 _ (by omega), e2 _ (by omega)]
  exact m4 r h1 h2
theorem StR_k {n r tw tp tt ts tn tq m0 m1 m2 m4 m5 : Int} (S : StR n r tw tp tt ts tn tq m0 m1 m2 m4 m5) : (14 ≤ tw ∧ tw ≤ 23 ∧ tw ≠ 20) ∧ (tw = 22 ↔ m0 = 20) ∧ (tw = 21 ↔ m0 = 19) ∧ (tw = 23 ↔ m0 = 21) ∧ (tw = 19 ↔ 1800 ≤ m0) ∧ (tw = 14 ↔ m0 = 13) ∧ (tw = 15 ↔ m0 = 14) ∧ (tw = 16 ↔ m0 = 15) ∧ (tw = 17 ↔ m0 = 16) ∧ (tw = 18 ↔ m0 = 17) ∧ ((tw = 19 ∨ tw = 21 ∨ tw = 22) → m4 = tq) ∧ (0 ≤ m0 ∧ m0 ≤ 2000) := by
  unfold StR at S
  rcases S with S | S | S | S | S | S | S | S | S <;> omega
section
variable {xs : List Int} {d : Nat} {b0 b1 : Nat} {c : Kc} {R cN : Int}
/-- the loops that are gone through -/
def Lp (b0 : Nat) (k : Int) (gT gM : mM) : Prop := ∀ o, 0 ≤ o → o < k → k ≤ gT 36 o → gT 31 o = 21 → (1 ≤ gT (b0 + 1) o ∧ gT (b0 + 1) o ≤ 99) ∧ gM 150 o = gT (b0 + 1) o - 1
/-- behind an end, and perhaps behind more of them -/
theorem p_end1 (hb : okB b0 b1) {gT gM : mM} (M : TmR R cN gT gM) (h150 : ∀ j, inI (gM 150 j)) {k : Int} (hk : 0 ≤ k ∧ k < R) (L : Lp b0 k gT gM) (he : gT 31 k = 22) (x1 : Int) (x3 x4 : mv) : ∃ gT' gM' k' y3 y4, C xs d 271 0 [mR b0, mR 30, mI k] gT = some ([mI k'], gT') ∧ X xs d k_M_behindEnds 2 [mR 130, mI x1, mI k, x3, x4] [] gM = X xs d k_M_behindEnds 2 [mR 130, mI x1, mI k', y3, y4] [] gM' ∧ (0 ≤ k' ∧ k' ≤ R) ∧ Lp b0 k' gT' gM' ∧ (∀ a, a ≠ b0 + 1 → gT' a = gT a) ∧ (∀ a, a ≠ 150 → gM' a = gM a) ∧ (∀ j, inI (gM' 150 j)) ∧ (k' = k + 1 ∨ k' = gT 36 k + 1 ∧ gT 31 (gT 36 k) = 21 ∧ gT' (b0 + 1) (gT 36 k) = gT (b0 + 1) (gT 36 k) - 1 ∧ 1 < gT (b0 + 1) (gT 36 k)) := by
  obtain ⟨m1, m2, m3, m4, m5⟩ := id M
  obtain ⟨n1, n2, n3⟩ := m5 k hk.1 hk.2
  obtain ⟨b, hbq⟩ : ∃ b, gT 36 k = b := ⟨_, rfl⟩
  have nb := n2 he
  rw [hbq] at nb ⊢
  obtain ⟨e1, e2, e3, e4⟩ := nb
  have Sk := StR_k (m4 k hk.1 hk.2)
  have Sb := StR_k (m4 b e1 (by omega))
  have q4 : gM 131 (46 + 6 * k + 4) = b := by rw [← hbq]; exact Sk.2.2.2.2.2.2.2.2.2.2.1 (Or.inr (Or.inr he))
  have q0 : gM 131 (46 + 6 * k) = 20 := Sk.2.1.mp he
  have g150 := h150 b
  have preT : ∀ o, (if (gT 31 b) = (21 : Int) then (if inA b 60 then (if (1 : Int) < (gT (b0 + 1) b) then (if inA b 60 then (if inI ((gT (b0 + 1) b) - 1) then (if inA b 60 then (if inI (b + 1) then some ([mI (b + 1)], (upM gT (b0 + 1) b ((gT (b0 + 1) b) - 1))) else none) else none) else none) else none) else (if inI (k + 1) then some ([mI (k + 1)], gT) else none)) else none) else (if inI (k + 1) then some ([mI (k + 1)], gT) else none)) = o → C xs d 271 0 [mR b0, mR 30, mI k] gT = o := by
    intro o ho
    rw [c_Li_behindEnd xs d (by omega), hbq]
    refine if_y (by omega) ?_
    refine if_y (by omega) ?_
    exact ho
  have preM : ∀ o, (if (gM 131 (46 + 6 * b)) = (19 : Int) then (if inA b 80 then (if (0 : Int) < (gM 150 b) then X xs d k_M_behindEnds 47 [mR 130, mI x1, mI k, mI b, x4] [mI 1] gM else X xs d k_M_behindEnds 46 [mR 130, mI x1, mI k, mI b, x4] [] gM) else none) else X xs d k_M_behindEnds 46 [mR 130, mI x1, mI k, mI b, x4] [] gM) = o → X xs d k_M_behindEnds 2 [mR 130, mI x1, mI k, x3, x4] [] gM = o := by
    intro o ho
    rw [e_M_behindEnds_2, m3, q4, q0]
    refine if_y (by omega) ?_
    refine if_y (by omega) ?_
    refine if_y (by omega) ?_
    refine if_y (by omega) ?_
    rw [if_pos rfl]
    refine if_y (by omega) ?_
    refine if_y (by omega) ?_
    refine if_y (by omega) ?_
    refine if_y (by omega) ?_
    refine if_y (by omega) ?_
    refine if_y (by omega) ?_
    refine if_y (by omega) ?_
    exact ho
  have noM : X xs d k_M_behindEnds 46 [mR 130, mI x1, mI k, mI b, x4] [] gM = X xs d k_M_behindEnds 2 [mR 130, mI x1, mI (k + 1), mI b, mI 0] [] gM := by
    rw [e_M_behindEnds_46, e_M_behindEnds_47]
    refine if_y (by omega) ?_
    rw [if_pos rfl, e_M_behindEnds_58, Int.sub_zero, if_pos g150]
    refine if_y (by omega) ?_
    rw [if_pos rfl]
    refine if_y (by omega) ?_
    rw [up_same rfl, e_M_behindEnds_69]
  have Lnext : Lp b0 (k + 1) gT gM := fun o h1 h2 h3 h4 => by
    by_cases z : o = k
    · rw [z] at h4
      omega
    · exact L o h1 (by omega) (by omega) h4
  by_cases lo : gT 31 b = 21
  · have Lb := L b e1 e2 (by omega) lo
    by_cases ag : 1 < gT (b0 + 1) b
    · refine ⟨upM gT (b0 + 1) b (gT (b0 + 1) b - 1), upM gM 150 b (gM 150 b - 1), b + 1, mI b, mI 1, preT _ ?_, preM _ ?_, by omega, ?_, fun a ha => up_row ha, fun a ha => up_row ha, fun j => ?_, Or.inr ⟨rfl, lo, up_eq, ag⟩⟩
      · rw [if_pos lo]
        refine if_y (by omega) ?_
        refine if_y (by omega) ?_
        refine if_y (by omega) ?_
        refine if_y (by omega) ?_
        refine if_y (by omega) ?_
        refine if_y (by omega) ?_
        rfl
      · rw [if_pos (Sb.2.2.1.mp lo)]
        refine if_y (by omega) ?_
        refine if_y (by omega) ?_
        rw [e_M_behindEnds_47]
        refine if_y (by omega) ?_
        rw [if_neg (by decide), e_M_behindEnds_58]
        refine if_y (by omega) ?_
        refine if_y (by omega) ?_
        rw [if_neg (by decide)]
        refine if_y (by omega) ?_
        rw [e_M_behindEnds_69]
      · intro o h1 h2 h3 h4
        rw [up_ne (by omega)] at h3 h4
        rw [up_at, up_at]
        by_cases z : o = b
        · rw [if_pos z, if_pos z]
          omega
        · rw [if_neg z, if_neg z]
          have := (m5 b e1 (by omega)).2.2 o h1 (by omega) (Or.inr h4) (by omega) (Or.inl (Or.inr lo))
          exact L o h1 (by omega) (by omega) h4
      · rw [up_at]
        split
        · unfold inI; omega
        · exact h150 j
    · refine ⟨gT, gM, k + 1, mI b, mI 0, preT _ ?_, preM _ ?_, by omega, Lnext, fun _ _ => rfl, fun _ _ => rfl, h150, Or.inl rfl⟩
      · rw [if_pos lo]
        refine if_y (by omega) ?_
        refine if_n (by omega) ?_
        refine if_y (by omega) ?_
        rfl
      · rw [if_pos (Sb.2.2.1.mp lo)]
        refine if_y (by omega) ?_
        refine if_n (by omega) ?_
        exact noM
  · refine ⟨gT, gM, k + 1, mI b, mI 0, preT _ ?_, preM _ ?_, by omega, Lnext, fun _ _ => rfl, fun _ _ => rfl, h150, Or.inl rfl⟩
    · rw [if_neg lo]
      refine if_y (by omega) ?_
      rfl
    · rw [if_neg (fun z => lo (Sb.2.2.1.mpr z))]
      exact noM
/-- where both come to behind ends -/
def OuE (xs : List Int) (d b0 b1 : Nat) (R seed k i W : Int) (x1 : Int) (x3 x4 : mv) (gT gM : mM) : Prop := ∃ gT' gM' k' i', X xs d k_Li_runThrough 25 [mR b0, mR b1, mR 30, mI seed, mI k, mI i] [] gT = X xs d k_Li_runThrough 25 [mR b0, mR b1, mR 30, mI seed, mI k', mI i'] [] gT' ∧ X xs d k_M_behindEnds 2 [mR 130, mI x1, mI k, x3, x4] [] gM = some ([mI k'], gM') ∧ (k' = R ∨ gT' 31 k' ≠ 22) ∧ (0 ≤ k' ∧ k' ≤ R) ∧ (i ≤ i' ∧ i' ≤ i + W) ∧ Lp b0 k' gT' gM' ∧ (∀ a, a ≠ b0 + 1 → gT' a = gT a) ∧ (∀ a, a ≠ 150 → gM' a = gM a) ∧ ∀ j, inI (gM' 150 j)
theorem p_stop {gT gM : mM} (M : TmR R cN gT gM) (h150 : ∀ j, inI (gM 150 j)) {seed k i W x1 : Int} {x3 x4 : mv} (hk : 0 ≤ k ∧ k ≤ R) (L : Lp b0 k gT gM) (hz : k = R ∨ gT 31 k ≠ 22) (hW : 0 ≤ W) : OuE xs d b0 b1 R seed k i W x1 x3 x4 gT gM := by
  obtain ⟨m1, m2, m3, m4, m5⟩ := id M
  refine ⟨gT, gM, k, i, rfl, ?_, hz, hk, by omega, L, fun _ _ => rfl, fun _ _ => rfl, h150⟩
  rw [e_M_behindEnds_2, m3]
  by_cases z : k = R
  · rw [if_neg (by omega)]
  · have Sk := StR_k (m4 k hk.1 (by omega))
    refine if_y (by omega) ?_
    refine if_y (by omega) ?_
    refine if_y (by omega) ?_
    refine if_y (by omega) ?_
    rw [if_neg (fun y => by have := Sk.2.1.mpr y; omega)]
theorem OuE.step (hb : okB b0 b1) {gT gM gT1 gM1 : mM} (M : TmR R cN gT gM) {seed k k1 i W x1 : Int} {x3 x4 y3 y4 : mv} (hk : 0 ≤ k ∧ k < R) (he : gT 31 k = 22) (hi : 0 ≤ i ∧ i ≤ 900000) (t1 : C xs d 271 0 [mR b0, mR 30, mI k] gT = some ([mI k1], gT1)) (t2 : X xs d k_M_behindEnds 2 [mR 130, mI x1, mI k, x3, x4] [] gM = X xs d k_M_behindEnds 2 [mR 130, mI x1, mI k1, y3, y4] [] gM1) (fT : ∀ a, a ≠ b0 + 1 → gT1 a = gT a) (fM : ∀ a, a ≠ 150 → gM1 a = gM a) (H : OuE xs d b0 b1 R seed k1 (i + 1) W x1 y3 y4 gT1 gM1) : OuE xs d b0 b1 R seed k i (W + 1) x1 x3 x4 gT gM := by
  obtain ⟨m1, m2, m3, m4, m5⟩ := id M
  obtain ⟨gT', gM', k', i', r1, r2, r3, r4, r5, r6, r7, r8, r9⟩ := H
  refine ⟨gT', gM', k', i', ?_, by rw [t2]; exact r2, r3, r4, by omega, r6, fun a ha => by rw [r7 a ha, fT a ha], fun a ha => by rw [r8 a ha, fM a ha], r9⟩
  rw [e_Li_runThrough_25 xs d _ _ _ hb, m2, he]
  refine if_y (by omega) ?_
  refine if_y (by omega) ?_
  refine if_y (by omega) ?_
  rw [if_pos rfl]
  refine cI_of (t1) ?_
  rw [e_Li_runThrough_64 xs d _ _ _ hb]
  refine if_y (by omega) ?_
  exact r1
theorem p_ends0 (hb : okB b0 b1) (seed x1 : Int) : ∀ (m : Nat) (k i : Int) (gT gM : mM) (x3 x4 : mv), TmR R cN gT gM → (∀ j, inI (gM 150 j)) → 0 ≤ k → k ≤ R → R ≤ k + m → Lp b0 k gT gM → (0 ≤ i ∧ i + (m : Int) ≤ 800000) → ¬ (k < R ∧ gT 31 k = 22 ∧ gT 36 k = k - 1) → OuE xs d b0 b1 R seed k i (m : Int) x1 x3 x4 gT gM := by
  intro m
  induction m with
  | zero =>
    intro k i gT gM x3 x4 M h150 k0 kR hm L hi ne
    exact p_stop M h150 ⟨k0, kR⟩ L (by omega) (by omega)
  | succ m ih =>
    intro k i gT gM x3 x4 M h150 k0 kR hm L hi ne
    by_cases z : k = R ∨ gT 31 k ≠ 22
    · exact p_stop M h150 ⟨k0, kR⟩ L z (by omega)
    have kr : k < R := by omega
    have he : gT 31 k = 22 := by omega
    obtain ⟨gT1, gM1, k1, y3, y4, r1, r2, r3, r4, r5, r6, r7, r8⟩ := p_end1 (xs := xs) (d := d) hb M h150 ⟨k0, kr⟩ L he x1 x3 x4
    have M1 : TmR R cN gT1 gM1 := M.mv (fun a h1 h2 => r5 a (by omega)) (fun j hj => by rw [r6 131 (by omega)])
    obtain ⟨m1, m2, m3, m4, m5⟩ := id M
    have w1 : ((m + 1 : Nat) : Int) = (m : Int) + 1 := by omega
    rw [w1]
    refine OuE.step hb M ⟨k0, kr⟩ he (by omega) r1 r2 r5 r6 ?_
    rcases r8 with e | ⟨e, lo, -, -⟩
    · rw [e] at r4 ⊢
      refine ih (k + 1) (i + 1) gT1 gM1 y3 y4 M1 r7 (by omega) (by omega) (by omega) r4 (by omega) (fun y => ?_)
      obtain ⟨y1, y2, y3'⟩ := y
      rw [r5 31 (by omega)] at y2
      rw [r5 36 (by omega)] at y3'
      have := (m5 (k + 1) (by omega) y1).2.1 y2
      rw [y3', show k + 1 - 1 = k by omega] at this
      unfold opn at this
      omega
    · have n2 := (m5 k k0 kr).2.1 he
      rw [e] at r3 r4 ⊢
      refine p_stop M1 r7 r3 r4 (Or.inr (fun y => ?_)) (by omega)
      rw [r5 31 (by omega)] at y
      obtain ⟨b, hbq⟩ : ∃ b, gT 36 k = b := ⟨_, rfl⟩
      rw [hbq] at n2 y lo ne
      have c2 := (m5 (b + 1) (by omega) (by omega)).2.1 y
      have c3 := (m5 b (by omega) (by omega)).2.2 (gT 36 (b + 1)) c2.1 (by
        by_cases t : gT 36 (b + 1) = b
        · have := c2.2.2.2
          rw [t, n2.2.2.2] at this
          omega
        · omega) c2.2.2.1 (by rw [c2.2.2.2]; omega) (Or.inl (Or.inr lo))
      rw [c2.2.2.2, n2.2.2.2] at c3
      omega
theorem p_ends (hb : okB b0 b1) (seed x1 : Int) {k i : Int} : ∀ (q : Nat) (gT gM : mM) (x3 x4 : mv) (i : Int), TmR R cN gT gM → (∀ j, inI (gM 150 j)) → 0 ≤ k → k ≤ R → Lp b0 k gT gM → (0 ≤ i ∧ i + (q : Int) ≤ 700000) → q ≤ 99 → (gT 31 k = 22 → gT 36 k = k - 1 → gT 31 (gT 36 k) = 21 → gT (b0 + 1) (gT 36 k) ≤ (q : Int)) → OuE xs d b0 b1 R seed k i ((q : Int) + 60) x1 x3 x4 gT gM := by
  intro q
  induction q with
  | zero =>
    intro gT gM x3 x4 i M h150 k0 kR L hi hq hT
    obtain ⟨m1, m2, m3, m4, m5⟩ := id M
    by_cases ne : k < R ∧ gT 31 k = 22 ∧ gT 36 k = k - 1
    · obtain ⟨kr, he, hq1⟩ := ne
      obtain ⟨gT1, gM1, k1, y3, y4, r1, r2, r3, r4, r5, r6, r7, r8⟩ := p_end1 (xs := xs) (d := d) hb M h150 ⟨k0, kr⟩ L he x1 x3 x4
      have M1 : TmR R cN gT1 gM1 := M.mv (fun a h1 h2 => r5 a (by omega)) (fun j hj => by rw [r6 131 (by omega)])
      rcases r8 with e | ⟨e, lo, e3, e4⟩
      · rw [e] at r4 r1 r2
        have H := p_ends0 (xs := xs) (d := d) (b1 := b1) hb seed x1 59 (k + 1) (i + 1) gT1 gM1 y3 y4 M1 r7 (by omega) (by omega) (by omega) r4 (by omega) (fun y => by
          obtain ⟨y1, y2, y3'⟩ := y
          rw [r5 31 (by omega)] at y2
          rw [r5 36 (by omega)] at y3'
          have := (m5 (k + 1) (by omega) y1).2.1 y2
          rw [y3', show k + 1 - 1 = k by omega] at this
          unfold opn at this
          omega)
        exact OuE.step hb M ⟨k0, kr⟩ he (by omega) r1 r2 r5 r6 H
      · have := hT he hq1 lo
        omega
    · exact p_ends0 (xs := xs) (d := d) hb seed x1 60 k i gT gM x3 x4 M h150 k0 kR (by omega) L (by omega) ne
  | succ q ih =>
    intro gT gM x3 x4 i M h150 k0 kR L hi hq hT
    obtain ⟨m1, m2, m3, m4, m5⟩ := id M
    by_cases ne : k < R ∧ gT 31 k = 22 ∧ gT 36 k = k - 1
    · obtain ⟨kr, he, hq1⟩ := ne
      obtain ⟨gT1, gM1, k1, y3, y4, r1, r2, r3, r4, r5, r6, r7, r8⟩ := p_end1 (xs := xs) (d := d) hb M h150 ⟨k0, kr⟩ L he x1 x3 x4
      have M1 : TmR R cN gT1 gM1 := M.mv (fun a h1 h2 => r5 a (by omega)) (fun j hj => by rw [r6 131 (by omega)])
      have w1 : ((q + 1 : Nat) : Int) + 60 = ((q : Int) + 60) + 1 := by omega
      rw [w1]
      refine OuE.step hb M ⟨k0, kr⟩ he (by omega) r1 r2 r5 r6 ?_
      rcases r8 with e | ⟨e, lo, e3, e4⟩
      · rw [e] at r4 ⊢
        have H := p_ends0 (xs := xs) (d := d) (b1 := b1) hb seed x1 60 (k + 1) (i + 1) gT1 gM1 y3 y4 M1 r7 (by omega) (by omega) (by omega) r4 (by omega) (fun y => by
          obtain ⟨y1, y2, y3'⟩ := y
          rw [r5 31 (by omega)] at y2
          rw [r5 36 (by omega)] at y3'
          have := (m5 (k + 1) (by omega) y1).2.1 y2
          rw [y3', show k + 1 - 1 = k by omega] at this
          unfold opn at this
          omega)
        obtain ⟨gT', gM', k', i', s1, s2, s3, s4, s5, s6⟩ := H
        exact ⟨gT', gM', k', i', s1, s2, s3, s4, by omega, s6⟩
      · rw [e, hq1, show k - 1 + 1 = k by omega] at r4 ⊢
        refine ih gT1 gM1 y3 y4 (i + 1) M1 r7 k0 kR r4 (by omega) (by omega) (fun z1 z2 z3 => ?_)
        have := hT he hq1 lo
        rw [r5 36 (by omega), e3]
        omega
    · have H := p_ends0 (xs := xs) (d := d) (b1 := b1) hb seed x1 60 k i gT gM x3 x4 M h150 k0 kR (by omega) L (by omega) ne
      obtain ⟨gT', gM', k', i', s1, s2, s3, s4, s5, s6⟩ := H
      exact ⟨gT', gM', k', i', s1, s2, s3, s4, by omega, s6⟩
end
