/-! EQUIV 38: one step after another is lived -/
section
variable {xs : List Int} {d : Nat} {b0 b1 : Nat} {c : Kc} {R cN s B : Int} {gT gM : mM}
theorem p_holds (hb : okB b0 b1) (k1 : CoT b1 c gT) (k2 : CoM c gM) (w : WfC c) (hcN : c 0 0 = cN) (M : TmR R cN gT gM) {k : Int} (hk : 0 ≤ k ∧ k < R) (he : gT 31 k = 19) : ∃ v, (v = 0 ∨ v = 1) ∧ C xs d 279 0 [mR b0, mR b1, mR 30, mI k] gT = some ([mI v], gT) ∧ C xs d 216 0 [mR 130, mI (46 + 6 * k)] gM = some ([mI v], gM) := by
  obtain ⟨m1, m2, m3, m4, m5⟩ := M
  have S := m4 k hk.1 hk.2
  have hc := w.1
  have S2 : gT 32 k = gM 131 (46 + 6 * k + 1) ∧ (0 ≤ gT 32 k ∧ gT 32 k < cN) ∧ (gT 33 k = 20 ∧ gM 131 (46 + 6 * k) = 1822 ∨ (gT 33 k = 10 ∧ gM 131 (46 + 6 * k) = 1810 ∨ gT 33 k = 11 ∧ gM 131 (46 + 6 * k) = 1811) ∧ gT 34 k = gM 131 (46 + 6 * k + 5) ∧ (gT 34 k = 60 ∨ gT 34 k = 61 ∨ gT 34 k = 62) ∧ gT 35 k = gM 131 (46 + 6 * k + 2)) := by
    unfold StR at S
    rcases S with S | S | S | S | S | S | S | S | S <;> omega
  obtain ⟨p1, p2, p3⟩ := S2
  rw [← hcN] at p2
  have has := t_has (xs := xs) (d := d) (h := gT) (b := b1) (by omega) (gT 32 k)
  rw [k1.n, b2i_y p2] at has
  have w5 : gT (b1 + 4) (gT 32 k) = c 5 (gT 32 k) := k1.w _ p2.1 p2.2
  have w6 : gT (b1 + 5) (gT 32 k) = c 6 (gT 32 k) := k1.l _ p2.1 p2.2
  have z5 := k2.w _ p2.1 p2.2
  have z6 := k2.l _ p2.1 p2.2
  rcases p3 with ⟨t20, m0⟩ | ⟨tm, ts, tss, tn⟩
  · refine ⟨b2i (c 2 3 ≤ c 5 (gT 32 k)), by have := b2i_01 (P := c 2 3 ≤ c 5 (gT 32 k)); omega, ?_, ?_⟩
    · rw [c_Li_holds xs d hb]
      refine if_y (by omega) ?_
      refine cI_of (has) ?_
      rw [if_neg (by decide)]
      refine if_y (by omega) ?_
      rw [if_pos t20]
      refine cI_of (t_isLit (by omega) k1 w p2) ?_
      rw [if_pos b2i_01]
    · rw [c_M_holds, m0, ← p1]
      refine if_y (by omega) ?_
      refine if_y (by omega) ?_
      refine if_y (by omega) ?_
      refine if_y (by omega) ?_
      rw [if_pos (by decide)]
      refine cI_of (m_isLit k2 w p2) ?_
      rw [if_pos b2i_01]
  · have main : ∀ v, (∃ r, (r = 0 ∨ r = 1) ∧ X xs d k_Li_holds 36 [mR b0, mR b1, mR 30, mI k, mI (gT 32 k), mC 0] [mI v] gT = some ([mI r], gT) ∧ ∀ x2 x3 s1 s2, C xs d 129 0 [mR 130, mI s1, mI s2] gM = some ([mI v], gM) → X xs d k_M_holds 29 [mR 130, mI (46 + 6 * k), mI x2, mI x3, mC 0] [mI s2, mI s1, mR 130] gM = some ([mI r], gM)) := by
      intro v
      by_cases s60 : gT 34 k = 60
      · refine ⟨b2i (v < gT 35 k), by have := b2i_01 (P := v < gT 35 k); omega, ?_, fun x2 x3 s1 s2 h1 => ?_⟩
        · rw [e_Li_holds_36 xs d _ _ _ hb]
          refine if_y (by omega) ?_
          rw [if_pos s60]
          refine if_y (by omega) ?_
          by_cases y : v < gT 35 k
          · rw [if_pos y, b2i_y y]
          · rw [if_neg y, b2i_n y]
        · rw [e_M_holds_29]
          refine cI_of (h1) ?_
          rw [← ts, ← tn]
          refine if_y (by omega) ?_
          refine if_y (by omega) ?_
          rw [if_pos s60]
          refine if_y (by omega) ?_
          refine if_y (by omega) ?_
          by_cases y : v < gT 35 k
          · rw [if_pos y, b2i_y y]
          · rw [if_neg y, b2i_n y]
      by_cases s62 : gT 34 k = 62
      · refine ⟨b2i (gT 35 k < v), by have := b2i_01 (P := gT 35 k < v); omega, ?_, fun x2 x3 s1 s2 h1 => ?_⟩
        · rw [e_Li_holds_36 xs d _ _ _ hb]
          refine if_y (by omega) ?_
          rw [if_neg s60, if_pos s62]
          refine if_y (by omega) ?_
          by_cases y : gT 35 k < v
          · rw [if_pos y, b2i_y y]
          · rw [if_neg y, b2i_n y]
        · rw [e_M_holds_29]
          refine cI_of (h1) ?_
          rw [← ts, ← tn]
          refine if_y (by omega) ?_
          refine if_y (by omega) ?_
          rw [if_neg s60]
          refine if_y (by omega) ?_
          refine if_y (by omega) ?_
          rw [if_pos s62]
          refine if_y (by omega) ?_
          refine if_y (by omega) ?_
          by_cases y : gT 35 k < v
          · rw [if_pos y, b2i_y y]
          · rw [if_neg y, b2i_n y]
      · refine ⟨b2i (v = gT 35 k), by have := b2i_01 (P := v = gT 35 k); omega, ?_, fun x2 x3 s1 s2 h1 => ?_⟩
        · rw [e_Li_holds_36 xs d _ _ _ hb]
          refine if_y (by omega) ?_
          rw [if_neg s60, if_neg s62]
          refine if_y (by omega) ?_
          by_cases y : v = gT 35 k
          · rw [if_pos y, b2i_y y]
          · rw [if_neg y, b2i_n y]
        · rw [e_M_holds_29]
          refine cI_of (h1) ?_
          rw [← ts, ← tn]
          refine if_y (by omega) ?_
          refine if_y (by omega) ?_
          rw [if_neg s60]
          refine if_y (by omega) ?_
          refine if_y (by omega) ?_
          rw [if_neg s62]
          refine if_y (by omega) ?_
          refine if_y (by omega) ?_
          by_cases y : v = gT 35 k
          · rw [if_pos y, b2i_y y]
          · rw [if_neg y, b2i_n y]
    have p5 := m_personOf (xs := xs) (d := d) (h := gM) (p := gT 32 k) (f := 2) (by omega) (by omega)
    have p6 := m_personOf (xs := xs) (d := d) (h := gM) (p := gT 32 k) (f := 3) (by omega) (by omega)
    rw [z5] at p5
    rw [z6] at p6
    rcases tm with ⟨t10, m0⟩ | ⟨t11, m0⟩
    · obtain ⟨r, r1, r2, r3⟩ := main (c 5 (gT 32 k))
      refine ⟨r, r1, ?_, ?_⟩
      · rw [c_Li_holds xs d hb]
        refine if_y (by omega) ?_
        refine cI_of (has) ?_
        rw [if_neg (by decide)]
        refine if_y (by omega) ?_
        rw [if_neg (by omega)]
        refine if_y (by omega) ?_
        rw [if_pos t10, w5]
        refine if_y (by omega) ?_
        exact r2
      · rw [c_M_holds, m0, ← p1]
        refine if_y (by omega) ?_
        refine if_y (by omega) ?_
        refine if_y (by omega) ?_
        refine if_y (by omega) ?_
        rw [if_neg (by decide), if_pos (by decide)]
        exact r3 _ _ _ _ p5
    · obtain ⟨r, r1, r2, r3⟩ := main (c 6 (gT 32 k))
      refine ⟨r, r1, ?_, ?_⟩
      · rw [c_Li_holds xs d hb]
        refine if_y (by omega) ?_
        refine cI_of (has) ?_
        rw [if_neg (by decide)]
        refine if_y (by omega) ?_
        rw [if_neg (by omega)]
        refine if_y (by omega) ?_
        rw [if_neg (by omega), w6]
        refine if_y (by omega) ?_
        exact r2
      · rw [c_M_holds, m0, ← p1]
        refine if_y (by omega) ?_
        refine if_y (by omega) ?_
        refine if_y (by omega) ?_
        refine if_y (by omega) ?_
        rw [if_neg (by decide), if_neg (by decide)]
        exact r3 _ _ _ _ p6
/-- nothing but the places of work has changed -/
def TfL (b0 b1 : Nat) (g g' : mM) : Prop := Ow [b1, b1 + 4, b1 + 5, b1 + 8, b0, b0 + 1] g g'
def MfL (g g' : mM) : Prop := (∀ a, a ≠ 130 → a ≠ 131 → a ≠ 139 → a ≠ 150 → a ≠ 151 → g' a = g a) ∧ (∀ j, j ≠ 39 → j ≠ 40 → g' 130 j = g 130 j) ∧ ∀ j, (46 ≤ j ∨ j = 8) → g' 131 j = g 131 j
theorem TfL.rf {g : mM} : TfL b0 b1 g g := Ow.rf
theorem MfL.rf {g : mM} : MfL g g := ⟨fun _ _ _ _ _ _ => rfl, fun _ _ _ => rfl, fun _ _ => rfl⟩
theorem TfL.tr {g k l : mM} (a : TfL b0 b1 g k) (b : TfL b0 b1 k l) : TfL b0 b1 g l := Ow.tr a b (fun _ z => z) (fun _ z => z)
theorem MfL.tr {g k l : mM} (a : MfL g k) (b : MfL k l) : MfL g l := ⟨fun x h1 h2 h3 h4 h5 => (b.1 x h1 h2 h3 h4 h5).trans (a.1 x h1 h2 h3 h4 h5), fun j h1 h2 => (b.2.1 j h1 h2).trans (a.2.1 j h1 h2), fun j h => (b.2.2 j h).trans (a.2.2 j h)⟩
theorem TfL.ts {g g' : mM} (a : TsL b0 b1 g g') : TfL b0 b1 g g' := Ow.wk a (fun x hx => by
  simp only [List.mem_cons, List.not_mem_nil, or_false] at hx ⊢
  omega)
theorem MfL.ms {g g' : mM} (a : MsL g g') : MfL g g' := ⟨fun x h1 h2 h3 h4 h5 => a.1 x h1 h2 h3 h5, fun j h1 h2 => a.2.1 j h1, a.2.2⟩
theorem MfL.u51 {g k : mM} (a : MfL g k) {i v : Int} : MfL g (upM k 151 i v) := ⟨fun x h1 h2 h3 h4 h5 => by rw [up_row h5]; exact a.1 x h1 h2 h3 h4 h5, fun j h h' => by rw [up_ne (by omega)]; exact a.2.1 j h h', fun j h => by rw [up_ne (by omega)]; exact a.2.2 j h⟩
theorem MfL.u50 {g k : mM} (a : MfL g k) {i v : Int} : MfL g (upM k 150 i v) := ⟨fun x h1 h2 h3 h4 h5 => by rw [up_row h4]; exact a.1 x h1 h2 h3 h4 h5, fun j h h' => by rw [up_ne (by omega)]; exact a.2.1 j h h', fun j h => by rw [up_ne (by omega)]; exact a.2.2 j h⟩
theorem LvR.add {mi : Int} (L : LvR b0 b1 c s mi B gT gM) (hm : mi = 0 ∨ mi = 1) : LvR b0 b1 c s 0 (B + 1) gT (upM gM 151 0 (gM 151 0 + mi)) := by
  obtain ⟨⟨x1, x2, x3, x4⟩, y1, ⟨y2, y3⟩, ⟨d1, d2, d3, d4⟩, ⟨y5, y6⟩, f1, f2, f3, f4⟩ := L
  refine ⟨⟨x1, x2.mv (up_row (by omega)), x3, x4⟩, by rw [up_ne (by omega)]; exact y1, ⟨y2, by rw [up_ne (by omega)]; exact y3⟩, ⟨?_, ?_, ?_, ?_⟩, ⟨y5, ?_⟩, ?_, ?_, ?_, ?_⟩
  · rw [up_eq]; omega
  · rw [up_at, if_neg (by omega)]; exact d2
  · rw [up_at, if_neg (by omega)]; exact d3
  · rw [up_at, if_neg (by omega)]; exact d4
  · rw [up_at, if_neg (by omega)]; exact y6
  · rw [up_eq]; omega
  · rw [up_at, if_neg (by omega)]; omega
  · rw [up_at, if_neg (by omega)]; omega
  · rw [up_at, if_neg (by omega)]; omega
theorem LvR.row {mi : Int} (hb : okB b0 b1) (L : LvR b0 b1 c s mi B gT gM) {i v i' v' : Int} : LvR b0 b1 c s mi B (upM gT (b0 + 1) i v) (upM gM 150 i' v') := by
  obtain ⟨⟨x1, x2, x3, x4⟩, y1, ⟨y2, y3⟩, y4, ⟨y5, y6⟩, y7⟩ := L
  have e0 : upM gM 150 i' v' 130 = gM 130 := up_row (by omega)
  have e1 : upM gM 150 i' v' 151 = gM 151 := up_row (by omega)
  have e2 : upM gT (b0 + 1) i v b0 = gT b0 := up_row (by omega)
  exact ⟨⟨x1.mv (fun a h1 h2 => up_row (by omega)), x2.mv (up_row (by omega)), x3, x4⟩, by rw [e0, e2]; exact y1, ⟨by rw [e2]; exact y2, by rw [e0]; exact y3⟩, by rw [e1, e2]; exact y4, ⟨by rw [e2]; exact y5, by rw [e1]; exact y6⟩, by rw [e1]; exact y7⟩
theorem LvR.mvE {mi : Int} (hb : okB b0 b1) (L : LvR b0 b1 c s mi B gT gM) {gT' gM' : mM} (u7 : ∀ a, a ≠ b0 + 1 → gT' a = gT a) (u8 : ∀ a, a ≠ 150 → gM' a = gM a) : LvR b0 b1 c s mi B gT' gM' := by
  obtain ⟨y1, y2, y3, y4, y5, y6⟩ := L
  have e1 : gT' b0 = gT b0 := u7 b0 (by omega)
  have e2 : gM' 130 = gM 130 := u8 130 (by omega)
  have e3 : gM' 151 = gM 151 := u8 151 (by omega)
  have k1 : CoT b1 c gT' := y1.1.mv (fun a h1 h2 => u7 a (by omega))
  have k2 : CoM c gM' := y1.2.1.mv (u8 131 (by omega))
  unfold LvR
  rw [e1, e2, e3]
  exact ⟨⟨k1, k2, y1.2.2⟩, y2, y3, y4, y5, y6⟩
theorem LvR.wk {mi B' : Int} (L : LvR b0 b1 c s mi B gT gM) (h : B ≤ B') : LvR b0 b1 c s mi B' gT gM := by
  obtain ⟨y1, y2, y3, y4, y5, f1, f2, f3, f4⟩ := L
  exact ⟨y1, y2, y3, y4, y5, by omega, by omega, by omega, by omega⟩
/-- what follows a step -/
def OuS (xs : List Int) (d b0 b1 : Nat) (R cN s B x1 k : Int) (gT gM : mM) (oT oM : Option (List mv × mM)) : Prop := ∃ gT' gM' c' nx, oT = some ([mI nx], gT') ∧ oM = X xs d k_M_lives 110 [mR 130, mI x1, mI k, mI (46 + 6 * k)] [mI nx, mR 130] gM' ∧ (0 ≤ nx ∧ nx ≤ R) ∧ LvR b0 b1 c' s 0 (B + 21) gT' gM' ∧ c' 0 0 = cN ∧ Lp b0 nx gT' gM' ∧ TfL b0 b1 gT gT' ∧ MfL gM gM' ∧ ∀ j, inI (gM' 150 j)
noncomputable abbrev goM (xs : List Int) (d : Nat) (x1 k z : Int) (gM : mM) : Option (List mv × mM) := cI (C xs d 215 0 [mR 130, mI (46 + 6 * k)] gM) (fun v1 h1 => (if v1 = 0 then X xs d k_M_lives 67 [mR 130, mI x1, mI k, mI (46 + 6 * k)] [mI 1, mI z, mI 0, mR 151] h1 else X xs d k_M_lives 67 [mR 130, mI x1, mI k, mI (46 + 6 * k)] [mI 0, mI z, mI 0, mR 151] h1))
theorem p_lstep (hb : okB b0 b1) (L : LvR b0 b1 c s 0 B gT gM) (hB : 0 ≤ B ∧ B ≤ 7000) (hcN : c 0 0 = cN) (M : TmR R cN gT gM) (h150 : ∀ j, inI (gM 150 j)) {k x1 : Int} (hk : 0 ≤ k ∧ k < R) (P : Lp b0 k gT gM) (h22 : gT 31 k ≠ 22) (h23 : gT 31 k ≠ 23) : OuS xs d b0 b1 R cN s B x1 k gT gM (C xs d 272 0 [mR b0, mR b1, mR 30, mI k] gT) (goM xs d x1 k (gM 151 0) gM) := by
  obtain ⟨m1, m2, m3, m4, m5⟩ := id M
  have S := m4 k hk.1 hk.2
  have Sk := StR_k S
  have hc := L.1.2.2.1.1
  -- a step that neither tests nor loops
  have plain : ∀ (oT oM : Option (List mv × mM)), gM 131 (46 + 6 * k) < 18 → OuL b0 b1 c s B gT gM oT oM → C xs d 272 0 [mR b0, mR b1, mR 30, mI k] gT = cV oT (fun h6 => (if inI (k + 1) then some ([mI (k + 1)], h6) else none)) → C xs d 215 0 [mR 130, mI (46 + 6 * k)] gM = cI oM (fun v5 h5 => (if 0 ≤ v5 ∧ v5 ≤ 1 then some ([mI v5], h5) else none)) → gT 31 k ≠ 21 → OuS xs d b0 b1 R cN s B x1 k gT gM (C xs d 272 0 [mR b0, mR b1, mR 30, mI k] gT) (goM xs d x1 k (gM 151 0) gM) := by
    intro oT oM hm O eT eM n21
    obtain ⟨gT', gM', c', v, x2, x3, x4, x5, x6, x7, x8, x9⟩ := O
    have mr : gM' 131 (46 + 6 * k) = gM 131 (46 + 6 * k) := x8.2.2 _ (by omega)
    have m51 := x5.2.2.2.2.2.1
    have tail : ∀ s3, (s3 = 0 ∨ s3 = 1) → X xs d k_M_lives 67 [mR 130, mI x1, mI k, mI (46 + 6 * k)] [mI s3, mI (gM' 151 0), mI 0, mR 151] gM' = X xs d k_M_lives 110 [mR 130, mI x1, mI k, mI (46 + 6 * k)] [mI (k + 1), mR 130] (upM gM' 151 0 (gM' 151 0 + s3)) := by
      intro s3 hs
      rw [e_M_lives_67]
      refine if_y (by omega) ?_
      refine if_y (by omega) ?_
      refine if_y (by omega) ?_
      rw [mr, if_neg (by omega), e_M_lives_87]
      refine if_y (by omega) ?_
      rw [up_ne (by omega), mr, if_pos (by omega), e_M_lives_107]
      refine if_y (by omega) ?_
      rfl
    refine ⟨gT', upM gM' 151 0 (gM' 151 0 + (1 - v)), c', k + 1, ?_, ?_, by omega, ?_, by rw [x6, hcN], fun o h1 h2 h3 h4 => ?_, TfL.ts x7, (MfL.ms x8).u51, fun j => by rw [up_ne (by omega), x8.1 150 (by omega) (by omega) (by omega) (by omega)]; exact h150 j⟩
    · rw [eT, x2]
      refine cV_of rfl ?_
      refine if_y (by omega) ?_
      rfl
    · unfold goM
      rw [eM, x3, ← x9]
      refine cI_of (v := v) (h := gM') ?_ ?_
      · refine cI_of rfl ?_
        rw [if_pos (by omega)]
      rcases x4 with rfl | rfl
      · rw [if_pos rfl]
        exact tail 1 (Or.inr rfl)
      · rw [if_neg (by decide)]
        exact tail 0 (Or.inl rfl)
    · have := x5.add (by omega)
      rwa [show B + 20 + 1 = B + 21 by omega] at this
    · have e31 : gT' 31 = gT 31 := x7 31 (by simp; omega)
      have e36 : gT' 36 = gT 36 := x7 36 (by simp; omega)
      have eb : gT' (b0 + 1) = gT (b0 + 1) := x7 (b0 + 1) (by simp; omega)
      rw [e36] at h3
      rw [e31] at h4
      rw [eb, up_ne (by omega), x8.1 150 (by omega) (by omega) (by omega) (by omega)]
      by_cases z : o = k
      · rw [z] at h4; exact absurd h4 n21
      · exact P o h1 (by omega) (by omega) h4
  have iA : inA k 60 := by unfold inA; omega
  have i1 : inI (46 + 6 * k + 1) := by unfold inI; omega
  have i2 : inA (46 + 6 * k + 1) 2346 := by unfold inA; omega
  have i3 : inA (46 + 6 * k) 2346 := by unfold inA; omega
  have i4 : inI (46 + 6 * k + 2) := by unfold inI; omega
  have i5 : inA (46 + 6 * k + 2) 2346 := by unfold inA; omega
  have tw : gT 31 k = 14 ∨ gT 31 k = 15 ∨ gT 31 k = 16 ∨ gT 31 k = 17 ∨ gT 31 k = 18 ∨ gT 31 k = 19 ∨ gT 31 k = 21 := by omega
  rcases tw with t | t | t | t | t | t | t
  · have q : gM 131 (46 + 6 * k) = 13 ∧ gT 32 k = gM 131 (46 + 6 * k + 1) ∧ 0 ≤ gT 32 k ∧ gT 32 k < cN := by
      unfold StR at S
      rcases S with S | S | S | S | S | S | S | S | S <;> omega
    refine plain _ _ (by omega) (p_ldrink (xs := xs) (d := d) L hb hB (p := gT 32 k) (by omega)) ?_ ?_ (by omega)
    · rw [c_Li_behindStep xs d hb, if_pos iA, if_pos iA, if_pos t]
    · rw [c_M_does, if_pos i1, if_pos i2, if_pos i3, if_pos q.1, q.2.1]
  · have q : gM 131 (46 + 6 * k) = 14 ∧ gT 35 k = gM 131 (46 + 6 * k + 1) ∧ 1 ≤ gT 35 k ∧ gT 35 k ≤ 20 := by
      unfold StR at S
      rcases S with S | S | S | S | S | S | S | S | S <;> omega
    refine plain _ _ (by omega) (p_lnights (xs := xs) (d := d) L hb hB (n := gT 35 k) (by omega)) ?_ ?_ (by omega)
    · rw [c_Li_behindStep xs d hb, if_pos iA, if_pos iA, if_neg (by omega), if_pos t, if_pos iA]
    · rw [c_M_does, if_pos i1, if_pos i2, if_pos i3, if_neg (by omega), if_pos q.1, q.2.1]
  · have q : gM 131 (46 + 6 * k) = 15 := Sk.2.2.2.2.2.2.2.1.mp t
    refine plain _ _ (by omega) (p_levening (xs := xs) (d := d) L hb hB) ?_ ?_ (by omega)
    · rw [c_Li_behindStep xs d hb, if_pos iA, if_pos iA, if_neg (by omega), if_neg (by omega), if_pos t]
    · rw [c_M_does, if_pos i1, if_pos i2, if_pos i3, if_neg (by omega), if_neg (by omega), if_pos q]
  · have q : gM 131 (46 + 6 * k) = 16 ∧ gT 32 k = gM 131 (46 + 6 * k + 1) ∧ (0 ≤ gT 32 k ∧ gT 32 k < cN) ∧ gT 35 k = gM 131 (46 + 6 * k + 2) ∧ 0 ≤ gT 35 k ∧ gT 35 k ≤ 9 := by
      unfold StR at S
      rcases S with S | S | S | S | S | S | S | S | S <;> omega
    refine plain _ _ (by omega) (p_lfill (xs := xs) (d := d) L hb hB (p := gT 32 k) (n := gT 35 k) (by omega) (by omega)) ?_ ?_ (by omega)
    · rw [c_Li_behindStep xs d hb, if_pos iA, if_pos iA, if_neg (by omega), if_neg (by omega), if_neg (by omega), if_pos t, if_pos iA]
    · rw [c_M_does, if_pos i1, if_pos i2, if_pos i3, if_neg (by omega), if_neg (by omega), if_neg (by omega), if_pos q.1, if_pos i4, if_pos i5, q.2.1, q.2.2.2.1]
  · have q : gM 131 (46 + 6 * k) = 17 := Sk.2.2.2.2.2.2.2.2.2.1.mp t
    refine plain _ _ (by omega) (p_lany (xs := xs) (d := d) L hb hB) ?_ ?_ (by omega)
    · rw [c_Li_behindStep xs d hb, if_pos iA, if_pos iA, if_neg (by omega), if_neg (by omega), if_neg (by omega), if_neg (by omega), if_pos t]
    · rw [c_M_does, if_pos i1, if_pos i2, if_pos i3, if_neg (by omega), if_neg (by omega), if_neg (by omega), if_neg (by omega), if_pos q]
  · -- when
    have q : 1800 ≤ gM 131 (46 + 6 * k) := Sk.2.2.2.2.1.mp t
    have q4 : gM 131 (46 + 6 * k + 4) = gT 36 k := Sk.2.2.2.2.2.2.2.2.2.2.1 (Or.inl t)
    obtain ⟨n1, n2, n3⟩ := m5 k hk.1 hk.2
    have nw := n1 (Or.inl t)
    have m51 := L.2.2.2.2.2.1
    obtain ⟨v, hv, h1, h2⟩ := p_holds (xs := xs) (d := d) hb (L.add (Or.inl rfl)).1.1 (L.add (Or.inl rfl)).1.2.1 L.1.2.2.1 hcN (M.mv (fun _ _ _ => rfl) (fun j _ => by rw [up_ne (by omega)])) hk t
    have e0 : upM gM 151 0 (gM 151 0 + 0) = gM := up_same (by omega)
    rw [e0] at h2
    have La := L.add (Or.inl rfl)
    rw [e0] at La
    have does : C xs d 215 0 [mR 130, mI (46 + 6 * k)] gM = some ([mI 1], gM) := by
      rw [c_M_does, if_pos i1, if_pos i2, if_pos i3, if_neg (by omega), if_neg (by omega), if_neg (by omega), if_neg (by omega), if_neg (by omega)]
    have goE : ∀ o, cI (C xs d 216 0 [mR 130, mI (46 + 6 * k)] gM) (fun v1 h1 => (if v1 = (0 : Int) then (if inI ((46 + 6 * k) + 4) then (if inA ((46 + 6 * k) + 4) 2346 then (if inI ((h1 131 ((46 + 6 * k) + 4)) + 1) then X xs d k_M_lives 110 [mR 130, mI x1, mI k, mI (46 + 6 * k)] [mI ((h1 131 ((46 + 6 * k) + 4)) + 1), mR 130] h1 else none) else none) else none) else X xs d k_M_lives 107 [mR 130, mI x1, mI k, mI (46 + 6 * k)] [mR 130] h1)) = o → goM xs d x1 k (gM 151 0) gM = o := by
      intro o ho
      unfold goM
      refine cI_of (does) ?_
      rw [if_neg (by decide), e_M_lives_67]
      refine if_y (by omega) ?_
      refine if_y (by omega) ?_
      refine if_y (by omega) ?_
      rw [if_neg (by omega), e0, e_M_lives_87]
      refine if_y (by omega) ?_
      rw [if_neg (by omega)]
      exact ho
    have L21 : ∀ {B' : Int}, LvR b0 b1 c s 0 B' gT gM → B' ≤ B + 21 → LvR b0 b1 c s 0 (B + 21) gT gM := fun {B'} l hl => by
      obtain ⟨y1, y2, y3, y4, y5, f1, f2, f3, f4⟩ := l
      exact ⟨y1, y2, y3, y4, y5, by omega, by omega, by omega, by omega⟩
    rcases hv with rfl | rfl
    · refine ⟨gT, gM, c, gT 36 k + 1, ?_, goE _ ?_, by omega, L21 La (by omega), hcN, fun o a1 a2 a3 a4 => ?_, TfL.rf, MfL.rf, h150⟩
      · rw [c_Li_behindStep xs d hb, if_pos iA, if_pos iA, if_neg (by omega), if_neg (by omega), if_neg (by omega), if_neg (by omega), if_neg (by omega), if_pos t]
        refine cI_of (h1) ?_
        rw [if_pos rfl, if_pos iA]
        refine if_y (by omega) ?_
        rfl
      · refine cI_of (h2) ?_
        rw [if_pos rfl, q4]
        refine if_y (by omega) ?_
        refine if_y (by omega) ?_
        refine if_y (by omega) ?_
        rfl
      · rcases Int.lt_trichotomy o k with z | z | z
        · exact P o a1 z (by omega) a4
        · rw [z] at a4; omega
        · by_cases oe : o = gT 36 k
          · rw [oe, nw.2.2.1] at a4; omega
          · have := (m5 o a1 (by omega)).2.2 k hk.1 z (Or.inl t) (by omega) (Or.inl (Or.inr a4))
            omega
    · refine ⟨gT, gM, c, k + 1, ?_, goE _ ?_, by omega, L21 La (by omega), hcN, fun o a1 a2 a3 a4 => ?_, TfL.rf, MfL.rf, h150⟩
      · rw [c_Li_behindStep xs d hb, if_pos iA, if_pos iA, if_neg (by omega), if_neg (by omega), if_neg (by omega), if_neg (by omega), if_neg (by omega), if_pos t]
        refine cI_of (h1) ?_
        rw [if_neg (by decide)]
        refine if_y (by omega) ?_
        rfl
      · refine cI_of (h2) ?_
        rw [if_neg (by decide), e_M_lives_107]
        refine if_y (by omega) ?_
        rfl
      · by_cases z : o = k
        · rw [z] at a4; omega
        · exact P o a1 (by omega) (by omega) a4
  · -- loop
    have q : gM 131 (46 + 6 * k) = 19 ∧ gT 35 k = gM 131 (46 + 6 * k + 1) ∧ 1 ≤ gT 35 k ∧ gT 35 k ≤ 99 := by
      unfold StR at S
      rcases S with S | S | S | S | S | S | S | S | S <;> omega
    have m51 := L.2.2.2.2.2.1
    have e0 : upM gM 151 0 (gM 151 0 + 0) = gM := up_same (by omega)
    have does : C xs d 215 0 [mR 130, mI (46 + 6 * k)] gM = some ([mI 1], gM) := by
      rw [c_M_does, if_pos i1, if_pos i2, if_pos i3, if_neg (by omega), if_neg (by omega), if_neg (by omega), if_neg (by omega), if_neg (by omega)]
    refine ⟨upM gT (b0 + 1) k (gT 35 k), upM gM 150 k (gT 35 k - 1), c, k + 1, ?_, ?_, by omega, ?_, hcN, fun o a1 a2 a3 a4 => ?_, Ow.rf.up (by simp), MfL.rf.u50, fun j => ?_⟩
    · rw [c_Li_behindStep xs d hb, if_pos iA, if_pos iA, if_neg (by omega), if_neg (by omega), if_neg (by omega), if_neg (by omega), if_neg (by omega), if_neg (by omega), if_neg (by omega), if_pos t, if_pos iA, if_pos iA]
      refine if_y (by omega) ?_
      rfl
    · unfold goM
      refine cI_of (does) ?_
      rw [if_neg (by decide), e_M_lives_67]
      refine if_y (by omega) ?_
      refine if_y (by omega) ?_
      refine if_y (by omega) ?_
      rw [if_pos q.1, if_pos i1, if_pos i2, e0, ← q.2.1]
      refine if_y (by omega) ?_
      refine if_y (by omega) ?_
      rw [e_M_lives_87]
      refine if_y (by omega) ?_
      rw [up_ne (by omega), if_pos (by omega), e_M_lives_107]
      refine if_y (by omega) ?_
      rfl
    · have := L.row hb (i := k) (v := gT 35 k) (i' := k) (v' := gT 35 k - 1)
      obtain ⟨y1, y2, y3, y4, y5, f1, f2, f3, f4⟩ := this
      exact ⟨y1, y2, y3, y4, y5, by omega, by omega, by omega, by omega⟩
    · rw [up_ne (by omega)] at a3 a4
      rw [up_at, up_at]
      by_cases z : o = k
      · rw [if_pos z, if_pos z]
        omega
      · rw [if_neg z, if_neg z]
        exact P o a1 (by omega) (by omega) a4
    · rw [up_at]
      split
      · unfold inI; omega
      · exact h150 j
/-- how it ends -/
def FiL (b0 b1 : Nat) (c' : Kc) (cN : Int) (gT gM gT' gM' : mM) : Prop := (CoT b1 c' gT' ∧ CoM c' gM' ∧ WfC c' ∧ c' 1 0 ≤ 9999) ∧ c' 0 0 = cN ∧ gT' b0 2 = gM' 130 40 ∧ (gT' b0 3 = gM' 151 0 ∧ gT' b0 4 = gM' 151 1 ∧ gT' b0 5 = gM' 151 2 ∧ gT' b0 6 = gM' 151 3) ∧ (gT' b0 7 = gM' 151 4 ∧ (gT' b0 7 = 0 ∨ gT' b0 7 = 1)) ∧ TfL b0 b1 gT gT' ∧ MfL gM gM' ∧ ∀ j, inI (gM' 150 j)
theorem p_lives (hb : okB b0 b1) (seed x1 : Int) : ∀ (n : Nat) (s k i : Int) (c : Kc) (gT gM : mM) (x3 : mv), s + n = 300 → 0 ≤ s → LvR b0 b1 c s 0 (21 * s) gT gM → c 0 0 = cN → TmR R cN gT gM → (∀ j, inI (gM 150 j)) → (0 ≤ k ∧ k ≤ R) → Lp b0 k gT gM → (k = R ∨ gT 31 k ≠ 22) → (0 ≤ i ∧ i ≤ 200 * s) → ∃ gT' gM' c', X xs d k_Li_runThrough 25 [mR b0, mR b1, mR 30, mI seed, mI k, mI i] [] gT = some ([], gT') ∧ X xs d k_M_lives 20 [mR 130, mI x1, mI k, x3] [] gM = some ([], gM') ∧ FiL b0 b1 c' cN gT gM gT' gM' := by
  intro n
  induction n with
  | zero =>
    intro s k i c gT gM x3 hs s0 L hc M h150 hk P hz hi
    obtain ⟨m1, m2, m3, m4, m5⟩ := id M
    obtain ⟨l1, l2, ⟨l3, l4⟩, l5, ⟨l6, l7⟩, l8⟩ := id L
    by_cases z : k = R
    · refine ⟨gT, gM, c, ?_, ?_, l1, hc, by rw [l3, l4], ⟨by omega, l5.2⟩, ⟨by rw [l6, l7], Or.inl l6⟩, TfL.rf, MfL.rf, h150⟩
      · rw [e_Li_runThrough_25 xs d _ _ _ hb, m2, if_pos (by omega), if_neg (by omega)]
      · rw [e_M_lives_20, m3, if_neg (by omega)]
    · have h22 : gT 31 k ≠ 22 := by omega
      refine ⟨upM gT b0 7 1, upM gM 151 4 1, c, ?_, ?_, ⟨l1.1.mv (fun a h1 h2 => up_row (by omega)), l1.2.1.mv (up_row (by omega)), l1.2.2⟩, hc, ?_, ?_, ⟨by rw [up_eq, up_eq], Or.inr up_eq⟩, Ow.rf.up (by simp), MfL.rf.u51, fun j => by rw [up_ne (by omega)]; exact h150 j⟩
      · rw [e_Li_runThrough_25 xs d _ _ _ hb, m2, if_pos (by omega), if_pos (by omega)]
        refine if_y (by omega) ?_
        rw [if_neg h22, l3, if_neg (by omega)]
      · rw [e_M_lives_20, m3, l4, if_pos (by omega), if_pos (by omega)]
      · rw [up_at, if_neg (by omega), up_ne (by omega), l3, l4]
      · rw [up_at, if_neg (by omega), up_at, if_neg (by omega), up_at, if_neg (by omega), up_at, if_neg (by omega), up_at, if_neg (by omega), up_at, if_neg (by omega), up_at, if_neg (by omega), up_at, if_neg (by omega)]
        exact ⟨by omega, l5.2⟩
  | succ n ih =>
    intro s k i c gT gM x3 hs s0 L hc M h150 hk P hz hi
    obtain ⟨m1, m2, m3, m4, m5⟩ := id M
    obtain ⟨l1, l2, ⟨l3, l4⟩, l5, ⟨l6, l7⟩, l8⟩ := id L
    by_cases z : k = R
    · refine ⟨gT, gM, c, ?_, ?_, l1, hc, by rw [l3, l4], ⟨by omega, l5.2⟩, ⟨by rw [l6, l7], Or.inl l6⟩, TfL.rf, MfL.rf, h150⟩
      · rw [e_Li_runThrough_25 xs d _ _ _ hb, m2, if_pos (by omega), if_neg (by omega)]
      · rw [e_M_lives_20, m3, if_neg (by omega)]
    have h22 : gT 31 k ≠ 22 := by omega
    have kr : k < R := by omega
    have Sk := StR_k (m4 k hk.1 kr)
    generalize hgA : upM gT b0 2 (s + 1) = gA
    generalize hmA : upM gM 130 40 (s + 1) = mA
    have gAr : ∀ a, a ≠ b0 → gA a = gT a := fun a ha => by rw [← hgA, up_row ha]
    have mAr : ∀ a, a ≠ 130 → mA a = gM a := fun a ha => by rw [← hmA, up_row ha]
    have LA : LvR b0 b1 c (s + 1) 0 (21 * s) gA mA := by
      have e1 : ∀ j, j ≠ 2 → gA b0 j = gT b0 j := fun j hj => by rw [← hgA, up_at, if_neg hj]
      have e2 : mA 151 = gM 151 := mAr 151 (by omega)
      have e3 : mA 130 39 = gM 130 39 := by rw [← hmA, up_at, if_neg (by omega)]
      refine ⟨⟨l1.1.mv (fun a h1 h2 => gAr a (by omega)), l1.2.1.mv (mAr 131 (by omega)), l1.2.2⟩, by rw [e1 1 (by omega), e3]; exact l2, ⟨by rw [← hgA, up_eq], by rw [← hmA, up_eq]⟩, by rw [e1 3 (by omega), e1 4 (by omega), e1 5 (by omega), e1 6 (by omega), e2]; exact l5, ⟨by rw [e1 7 (by omega)]; exact l6, by rw [e2]; exact l7⟩, by rw [e2]; exact l8⟩
    have MA : TmR R cN gA mA := M.mv (fun a h1 h2 => gAr a (by omega)) (fun j _ => by rw [mAr 131 (by omega)])
    have hA : ∀ j, inI (mA 150 j) := fun j => by rw [mAr 150 (by omega)]; exact h150 j
    have fT : TfL b0 b1 gT gA := by rw [← hgA]; exact Ow.rf.up (by simp)
    have fM : MfL gM mA := by
      rw [← hmA]
      exact ⟨fun a h1 _ _ _ _ => up_row h1, fun j h1 h2 => by rw [up_at, if_neg h2], fun j _ => by rw [up_ne (by omega)]⟩
    have PA : Lp b0 k gA mA := fun o h1 h2 h3 h4 => by
      rw [gAr 36 (by omega)] at h3
      rw [gAr 31 (by omega)] at h4
      rw [gAr (b0 + 1) (by omega), mAr 150 (by omega)]
      exact P o h1 h2 h3 h4
    have preT : ∀ o, cI (C xs d 272 0 [mR b0, mR b1, mR 30, mI k] gA) (fun v1 h1 => X xs d k_Li_runThrough 64 [mR b0, mR b1, mR 30, mI seed, mI v1, mI i] [] h1) = o → X xs d k_Li_runThrough 25 [mR b0, mR b1, mR 30, mI seed, mI k, mI i] [] gT = o := by
      intro o ho
      rw [e_Li_runThrough_25 xs d _ _ _ hb, m2, if_pos (by omega), if_pos (by omega)]
      refine if_y (by omega) ?_
      rw [if_neg h22, l3, if_pos (by omega)]
      refine if_y (by omega) ?_
      rw [hgA]
      exact ho
    have iM : inI (s + 1) := by unfold inI; omega
    by_cases h23 : gT 31 k = 23
    · -- stop
      have q : gM 131 (46 + 6 * k) = 21 := Sk.2.2.2.1.mp h23
      refine ⟨gA, mA, c, preT _ ?_, ?_, LA.1, hc, by rw [LA.2.2.1.1, LA.2.2.1.2], ⟨by have := LA.2.2.2.1.1; omega, LA.2.2.2.1.2⟩, ⟨by rw [LA.2.2.2.2.1.1, LA.2.2.2.2.1.2], Or.inl LA.2.2.2.2.1.1⟩, fT, fM, hA⟩
      · have iA : inA k 60 := by unfold inA; omega
        refine cI_of (v := R) (h := gA) ?_ ?_
        · rw [c_Li_behindStep xs d hb, if_pos iA, if_pos iA, gAr 31 (by omega), h23]
          rw [if_neg (by decide), if_neg (by decide), if_neg (by decide), if_neg (by decide), if_neg (by decide), if_neg (by decide), if_neg (by decide), if_neg (by decide), gAr 30 (by omega), m2]
        · rw [e_Li_runThrough_64 xs d _ _ _ hb]
          refine if_y (by omega) ?_
          rw [e_Li_runThrough_25 xs d _ _ _ hb, gAr 30 (by omega), m2, if_pos (by omega), if_neg (by omega)]
      · rw [e_M_lives_20, m3, l4, if_pos (by omega), if_neg (by omega)]
        refine if_y (by omega) ?_
        refine if_y (by omega) ?_
        refine if_y (by omega) ?_
        refine if_y (by omega) ?_
        rw [if_pos q, hmA]
    · obtain ⟨gT1, gM1, c1, nx, r1, r2, r3, r4, r5, r6, r7, r8, r9⟩ := p_lstep (xs := xs) (d := d) (x1 := x1) hb LA (by omega) hc MA hA ⟨hk.1, kr⟩ PA (by rw [gAr 31 (by omega)]; exact h22) (by rw [gAr 31 (by omega)]; exact h23)
      have M1 : TmR R cN gT1 gM1 := MA.mv (fun a h1 h2 => r7 a (by simp; omega)) (fun j hj => r8.2.2 j hj)
      have mEq : ∀ o, X xs d k_M_lives 110 [mR 130, mI x1, mI k, mI (46 + 6 * k)] [mI nx, mR 130] gM1 = o → X xs d k_M_lives 20 [mR 130, mI x1, mI k, x3] [] gM = o := by
        intro o ho
        rw [e_M_lives_20, m3, l4, if_pos (by omega), if_neg (by omega)]
        refine if_y (by omega) ?_
        refine if_y (by omega) ?_
        refine if_y (by omega) ?_
        refine if_y (by omega) ?_
        rw [if_neg (fun y => h23 (Sk.2.2.2.1.mpr y)), hmA]
        have z0 : mA 151 0 = gM 151 0 := by rw [mAr 151 (by omega)]
        rw [z0] at r2
        exact r2.trans ho
      obtain ⟨q99, hq99⟩ : ∃ q : Nat, q = 99 := ⟨99, rfl⟩
      have TLb : gT1 31 nx = 22 → gT1 36 nx = nx - 1 → gT1 31 (gT1 36 nx) = 21 → gT1 (b0 + 1) (gT1 36 nx) ≤ (q99 : Int) := fun z1 z2 z3 => by
        by_cases nR : nx < R
        · obtain ⟨-, -, -, m4', m5'⟩ := id M1
          have a := (m5' nx r3.1 nR).2.1 z1
          have := r6 (gT1 36 nx) a.1 a.2.1 (by rw [a.2.2.2]; omega) z3
          omega
        · obtain ⟨-, -, -, m4', m5'⟩ := id M1
          have : 0 ≤ gT1 36 nx ∧ gT1 36 nx < R := by omega
          have a := (m5' (gT1 36 nx) this.1 this.2).1 (Or.inr z3)
          have := r6 (gT1 36 nx) this.1 (by omega) (by omega) z3
          omega
      obtain ⟨gT2, gM2, k2, i2, u1, u2, u3, u4, u5, u6, u7, u8, u9⟩ := p_ends (xs := xs) (d := d) (b1 := b1) hb seed nx (k := nx) (i := i + 1) q99 gT1 gM1 (mC 0) (mC 0) (i + 1) M1 r9 r3.1 r3.2 r6 (by omega) (by omega) TLb
      have M2 : TmR R cN gT2 gM2 := M1.mv (fun a h1 h2 => u7 a (by omega)) (fun j hj => by rw [u8 131 (by omega)])
      have L2 : LvR b0 b1 c1 (s + 1) 0 (21 * (s + 1)) gT2 gM2 := (r4.mvE hb u7 u8).wk (by omega)
      obtain ⟨gT3, gM3, c3, v1, v2, v3⟩ := ih (s + 1) k2 i2 c1 gT2 gM2 (mI (46 + 6 * k)) (by omega) (by omega) L2 r5 M2 u9 u4 u6 u3 (by omega)
      have fT2 : TfL b0 b1 gT gT2 := (fT.tr r7).tr (fun a ha => u7 a (fun e => ha (by rw [e]; simp)))
      have fM2 : MfL gM gM2 := (fM.tr r8).tr ⟨fun a h1 h2 h3 h4 h5 => u8 a h4, fun j h1 h2 => by rw [u8 130 (by omega)], fun j _ => by rw [u8 131 (by omega)]⟩
      obtain ⟨w1, w2, w3, w4, w5, w6, w7, w8⟩ := v3
      refine ⟨gT3, gM3, c3, preT _ ?_, mEq _ ?_, w1, w2, w3, w4, w5, fT2.tr w6, fM2.tr w7, w8⟩
      · refine cI_of (r1) ?_
        rw [e_Li_runThrough_64 xs d _ _ _ hb]
        refine if_y (by omega) ?_
        rw [u1]
        exact v1
      · rw [e_M_lives_110]
        refine cI_of (v := k2) (h := gM2) ?_ v2
        rw [c_M_behindEnds]
        exact u2
end
