/-! EQUIV 36: what a step does, when it is lived -/
abbrev okB (b0 b1 : Nat) : Prop := (b0 = 107 ∧ b1 = 12) ∨ (b0 = 109 ∧ b1 = 21)
def TsL (b0 b1 : Nat) (g g' : mM) : Prop := Ow [b1, b1 + 4, b1 + 5, b1 + 8, b0] g g'
def MsL (g g' : mM) : Prop := (∀ a, a ≠ 130 → a ≠ 131 → a ≠ 139 → a ≠ 151 → g' a = g a) ∧ (∀ j, j ≠ 39 → g' 130 j = g 130 j) ∧ ∀ j, (46 ≤ j ∨ j = 8) → g' 131 j = g 131 j
theorem TsL.rf {b0 b1 : Nat} {g : mM} : TsL b0 b1 g g := Ow.rf
theorem TsL.tr {b0 b1 : Nat} {g k l : mM} (a : TsL b0 b1 g k) (b : TsL b0 b1 k l) : TsL b0 b1 g l := Ow.tr a b (fun _ z => z) (fun _ z => z)
theorem MsL.rf {g : mM} : MsL g g := ⟨fun _ _ _ _ _ => rfl, fun _ _ => rfl, fun _ _ => rfl⟩
theorem MsL.tr {g k l : mM} (a : MsL g k) (b : MsL k l) : MsL g l := ⟨fun x h1 h2 h3 h4 => (b.1 x h1 h2 h3 h4).trans (a.1 x h1 h2 h3 h4), fun j h => (b.2.1 j h).trans (a.2.1 j h), fun j h => (b.2.2 j h).trans (a.2.2 j h)⟩
theorem TsL.up {b0 b1 : Nat} {g k : mM} (a : TsL b0 b1 g k) {i v : Int} : TsL b0 b1 g (upM k b0 i v) := Ow.up a (by simp)
theorem MsL.oc {g k l : mM} (a : MsL g k) (o : Oc k l) : MsL g l := ⟨fun x h1 h2 h3 h4 => (o.1 x h2 h3).trans (a.1 x h1 h2 h3 h4), fun j h => by rw [o.1 130 (by omega) (by omega)]; exact a.2.1 j h, fun j h => (o.2 j h).trans (a.2.2 j h)⟩
theorem MsL.u51 {g k : mM} (a : MsL g k) {i v : Int} : MsL g (upM k 151 i v) := ⟨fun x h1 h2 h3 h4 => by rw [up_row h4]; exact a.1 x h1 h2 h3 h4, fun j h => by rw [up_ne (by omega)]; exact a.2.1 j h, fun j h => by rw [up_ne (by omega)]; exact a.2.2 j h⟩
theorem MsL.u39 {g k : mM} (a : MsL g k) {v : Int} : MsL g (upM k 130 39 v) := ⟨fun x h1 h2 h3 h4 => by rw [up_row h1]; exact a.1 x h1 h2 h3 h4, fun j h => by rw [up_at, if_neg h]; exact a.2.1 j h, fun j h => by rw [up_ne (by omega)]; exact a.2.2 j h⟩
/-- what both know while they live: the people, the number drawn, the steps, what was told of them -/
def LvR (b0 b1 : Nat) (c : Kc) (s mi B : Int) (gT gM : mM) : Prop := (CoT b1 c gT ∧ CoM c gM ∧ WfC c ∧ c 1 0 ≤ 9999) ∧ (gT b0 1 = gM 130 39 ∧ 0 ≤ gM 130 39 ∧ gM 130 39 < 65536) ∧ (gT b0 2 = s ∧ gM 130 40 = s) ∧ (gT b0 3 = gM 151 0 + mi ∧ gT b0 4 = gM 151 1 ∧ gT b0 5 = gM 151 2 ∧ gT b0 6 = gM 151 3) ∧ (gT b0 7 = 0 ∧ gM 151 4 = 0) ∧ (0 ≤ gM 151 0 ∧ gM 151 0 ≤ B) ∧ (0 ≤ gM 151 1 ∧ gM 151 1 ≤ B) ∧ (0 ≤ gM 151 2 ∧ gM 151 2 ≤ B) ∧ (0 ≤ gM 151 3 ∧ gM 151 3 ≤ B)
/-- both did a step, or both could not -/
def OuL (b0 b1 : Nat) (c : Kc) (s B : Int) (gT gM : mM) (oT oM : Option (List mv × mM)) : Prop := ∃ gT' gM' c' v, oT = some ([], gT') ∧ oM = some ([mI v], gM') ∧ (v = 0 ∨ v = 1) ∧ LvR b0 b1 c' s (1 - v) (B + 20) gT' gM' ∧ c' 0 0 = c 0 0 ∧ TsL b0 b1 gT gT' ∧ MsL gM gM' ∧ gM' 151 0 = gM 151 0
section
variable {xs : List Int} {d : Nat} {b0 b1 : Nat} {c : Kc} {s B : Int} {gT gM : mM}
theorem LvR.nB (L : LvR b0 b1 c s 0 B gT gM) (hb : okB b0 b1) : CoT b1 c (upM gT b0 3 (gT b0 3 + 1)) := L.1.1.mv (fun a h1 h2 => up_row (by omega))
/-- what could not be done -/
theorem LvR.miss (L : LvR b0 b1 c s 0 B gT gM) (hb : okB b0 b1) : LvR b0 b1 c s (1 - 0) (B + 20) (upM gT b0 3 (gT b0 3 + 1)) gM := by
  have n := L.nB hb
  obtain ⟨⟨a1, a2, a3, a4⟩, ⟨b1, b2, b3⟩, c1, ⟨d1, d2, d3, d4⟩, e1, f1, f2, f3, f4⟩ := L
  refine ⟨⟨n, a2, a3, a4⟩, ⟨by rw [up_at, if_neg (by omega)]; exact b1, b2, b3⟩, by rw [up_at, if_neg (by omega)]; exact c1, ⟨by rw [up_eq]; omega, by rw [up_at, if_neg (by omega)]; exact d2, by rw [up_at, if_neg (by omega)]; exact d3, by rw [up_at, if_neg (by omega)]; exact d4⟩, by rw [up_at, if_neg (by omega)]; exact e1, by omega, by omega, by omega, by omega⟩
theorem LvR.rep {mi : Int} {i v : Int} (L : LvR b0 b1 c s mi B gT gM) (k : CoM c (upM gM 131 i v)) : LvR b0 b1 c s mi B gT (upM gM 131 i v) := by
  obtain ⟨⟨x1, x2, x3, x4⟩, y1, ⟨y2, y3⟩, y4, ⟨y5, y6⟩, y7⟩ := L
  have e0 : upM gM 131 i v 130 = gM 130 := up_row (by omega)
  have e1 : upM gM 131 i v 151 = gM 151 := up_row (by omega)
  exact ⟨⟨x1, k, x3, x4⟩, by rw [e0]; exact y1, ⟨y2, by rw [e0]; exact y3⟩, by rw [e1]; exact y4, ⟨y5, by rw [e1]; exact y6⟩, by rw [e1]; exact y7⟩
theorem p_ldrink (L : LvR b0 b1 c s 0 B gT gM) (hb : okB b0 b1) (hB : 0 ≤ B ∧ B ≤ 7000) {p : Int} (hp : 0 ≤ p ∧ p < c 0 0) : OuL b0 b1 c s B gT gM (C xs d 273 0 [mR b0, mR b1, mI p] gT) (C xs d 212 0 [mR 130, mI p] gM) := by
  have Lm := L.miss hb
  obtain ⟨⟨a1, a2, a3, a4⟩, ⟨b1', b2, b3⟩, ⟨c1, c2⟩, ⟨d1, d2, d3, d4⟩, ⟨e1, e2⟩, f1, f2, f3, f4⟩ := L
  rw [c_Li_liveDrink xs d hb, c_M_drinksBy]
  have has := t_has (xs := xs) (d := d) (h := gT) (b := b1) (by omega) p
  rw [a1.n] at has
  by_cases cd : c 7 p ≠ -1 ∧ c 6 p ≠ 0
  · obtain ⟨m', s1, s2, s3⟩ := m_drinks (xs := xs) (d := d) a2 a3 hp cd.1 cd.2
    have dk := drC_T a1 (p := p)
    generalize hg : upM (upM gT (b1 + 5) p (c 6 p - 1)) (b1 + 4) (c 7 p) (min 99 (c 5 (c 7 p) + warmI c p)) = g at dk
    have gb : ∀ j, g b0 j = gT b0 j := fun j => by rw [← hg, up_ne (by omega), up_ne (by omega)]
    have m51 : ∀ j, m' 151 j = gM 151 j := fun j => by rw [s3.1 151 (by omega) (by omega)]
    have m30 : ∀ j, m' 130 j = gM 130 j := fun j => by rw [s3.1 130 (by omega) (by omega)]
    have ln := t_letDrink (xs := xs) (d := d) (b := b1) (by omega) a1 a3 hp cd.1 cd.2
    rw [hg] at ln
    refine ⟨upM g b0 5 (gT b0 5 + 1), upM m' 151 2 (gM 151 2 + 1), drC c p, 1, ?_, ?_, Or.inr rfl, ⟨⟨dk.mv (fun a h1 h2 => up_row (by omega)), s2.mv (up_row (by omega)), drC_wf a3 hp cd.1 cd.2, ?_⟩, ⟨?_, ?_⟩, ⟨?_, ?_⟩, ⟨?_, ?_, ?_, ?_⟩, ⟨?_, ?_⟩, ?_, ?_, ?_, ?_⟩, drC_0, ?_, (MsL.rf.oc s3).u51, by rw [up_at, if_neg (by omega), m51]⟩
    · refine cI_of (has) ?_
      rw [if_neg (by rw [b2i_y hp]; decide)]
      refine cI_of (t_canDrink (by omega) a1 a3 hp) ?_
      rw [if_neg (by rw [b2i_y cd]; decide)]
      refine cI_of (ln) ?_
      rw [gb]
      refine if_y (by omega) ?_
      rfl
    · refine cI_of (s1) ?_
      rw [if_neg (by decide), m51]
      refine if_y (by omega) ?_
      rfl
    · unfold drC
      rw [if_neg (by omega), if_neg (by omega)]; exact a4
    · rw [up_at, if_neg (by omega), gb, up_ne (by omega), m30]; exact b1'
    · rw [up_ne (by omega), m30]; exact ⟨b2, b3⟩
    · rw [up_at, if_neg (by omega), gb]; exact c1
    · rw [up_ne (by omega), m30]; exact c2
    · rw [up_at, if_neg (by omega), gb, up_at, if_neg (by omega), m51]; omega
    · rw [up_at, if_neg (by omega), gb, up_at, if_neg (by omega), m51]; exact d2
    · rw [up_eq, up_eq]; omega
    · rw [up_at, if_neg (by omega), gb, up_at, if_neg (by omega), m51]; exact d4
    · rw [up_at, if_neg (by omega), gb]; exact e1
    · rw [up_at, if_neg (by omega), m51]; exact e2
    · rw [up_at, if_neg (by omega), m51]; omega
    · rw [up_at, if_neg (by omega), m51]; omega
    · rw [up_eq]; omega
    · rw [up_at, if_neg (by omega), m51]; omega
    · refine TsL.up ?_
      rw [← hg]
      exact (Ow.rf.up (by simp)).up (by simp)
  · refine ⟨_, gM, c, 0, ?_, ?_, Or.inl rfl, Lm, rfl, TsL.rf.up, MsL.rf, rfl⟩
    · refine cI_of (has) ?_
      rw [if_neg (by rw [b2i_y hp]; decide)]
      refine cI_of (t_canDrink (by omega) a1 a3 hp) ?_
      rw [if_pos (b2i_n cd)]
      refine if_y (by omega) ?_
      rfl
    · refine cI_of (m_drinksNo a2 a3 hp cd) ?_
      rfl
theorem p_lnights (L : LvR b0 b1 c s 0 B gT gM) (hb : okB b0 b1) (hB : 0 ≤ B ∧ B ≤ 7000) {n : Int} (hn : 0 ≤ n ∧ n ≤ 20) : OuL b0 b1 c s B gT gM (C xs d 274 0 [mR b0, mR b1, mI n] gT) (C xs d 211 0 [mR 130, mI n] gM) := by
  have Lm := L.miss hb
  obtain ⟨⟨a1, a2, a3, a4⟩, ⟨b1', b2, b3⟩, ⟨c1, c2⟩, ⟨d1, d2, d3, d4⟩, ⟨e1, e2⟩, f1, f2, f3, f4⟩ := L
  have w1 := a3.2.1
  rw [c_Li_liveNights xs d hb, c_M_nightsBy, a2.g]
  by_cases z : c 1 0 + n ≤ 9999
  · obtain ⟨m', s1, s2, s3⟩ := m_nightsGo (xs := xs) (d := d) a2 a3 (n := n) (by omega) (by omega)
    have nk := ntC_T a1 (n := n)
    have tp := t_passNights (xs := xs) (d := d) (b := b1) (by omega) a1 a3 (n := n) (by omega)
    have gb : ∀ j, ntM gT b1 c n b0 j = gT b0 j := fun j => by rw [ntM, rowU_ne (by omega), up_ne (by omega)]
    have m51 : ∀ j, m' 151 j = gM 151 j := fun j => by rw [s3.1 151 (by omega) (by omega)]
    have m30 : ∀ j, m' 130 j = gM 130 j := fun j => by rw [s3.1 130 (by omega) (by omega)]
    refine ⟨upM (ntM gT b1 c n) b0 4 (gT b0 4 + n), upM m' 151 1 (gM 151 1 + n), ntC c n, 1, ?_, ?_, Or.inr rfl, ⟨⟨nk.mv (fun a h1 h2 => up_row (by omega)), s2.mv (up_row (by omega)), ntC_wf a3 hn.1 (by omega), ?_⟩, ⟨?_, ?_⟩, ⟨?_, ?_⟩, ⟨?_, ?_, ?_, ?_⟩, ⟨?_, ?_⟩, ?_, ?_, ?_, ?_⟩, ?_, ?_, (MsL.rf.oc s3).u51, by rw [up_at, if_neg (by omega), m51]⟩
    · refine cI_of (t_hasNights (by omega) a1 a3 (by omega)) ?_
      rw [if_neg (by rw [b2i_y z]; decide)]
      refine cV_of (tp) ?_
      rw [gb]
      refine if_y (by omega) ?_
      rfl
    · refine if_y (by omega) ?_
      refine if_n (by omega) ?_
      refine cV_of (s1) ?_
      rw [m51]
      refine if_y (by omega) ?_
      rfl
    · unfold ntC
      rw [if_neg (by omega), if_pos rfl]; omega
    · rw [up_at, if_neg (by omega), gb, up_ne (by omega), m30]; exact b1'
    · rw [up_ne (by omega), m30]; exact ⟨b2, b3⟩
    · rw [up_at, if_neg (by omega), gb]; exact c1
    · rw [up_ne (by omega), m30]; exact c2
    · rw [up_at, if_neg (by omega), gb, up_at, if_neg (by omega), m51]; omega
    · rw [up_eq, up_eq]; omega
    · rw [up_at, if_neg (by omega), gb, up_at, if_neg (by omega), m51]; exact d3
    · rw [up_at, if_neg (by omega), gb, up_at, if_neg (by omega), m51]; exact d4
    · rw [up_at, if_neg (by omega), gb]; exact e1
    · rw [up_at, if_neg (by omega), m51]; exact e2
    · rw [up_at, if_neg (by omega), m51]; omega
    · rw [up_eq]; omega
    · rw [up_at, if_neg (by omega), m51]; omega
    · rw [up_at, if_neg (by omega), m51]; omega
    · unfold ntC
      rw [if_neg (by omega), if_neg (by omega)]
    · exact TsL.up ((Ow.rf.up (by simp)).row (by simp))
  · refine ⟨_, gM, c, 0, ?_, ?_, Or.inl rfl, Lm, rfl, TsL.rf.up, MsL.rf, rfl⟩
    · refine cI_of (t_hasNights (by omega) a1 a3 (by omega)) ?_
      rw [if_pos (b2i_n z)]
      refine if_y (by omega) ?_
      rfl
    · refine if_y (by omega) ?_
      refine if_y (by omega) ?_
      rfl
theorem p_levening (L : LvR b0 b1 c s 0 B gT gM) (hb : okB b0 b1) (hB : 0 ≤ B ∧ B ≤ 7000) : OuL b0 b1 c s B gT gM (C xs d 275 0 [mR b0, mR b1] gT) (C xs d 213 0 [mR 130] gM) := by
  have Lm := L.miss hb
  obtain ⟨⟨a1, a2, a3, a4⟩, ⟨b1', b2, b3⟩, ⟨c1, c2⟩, ⟨d1, d2, d3, d4⟩, ⟨e1, e2⟩, f1, f2, f3, f4⟩ := L
  have w1 := a3.2.1
  rw [c_Li_liveEvening xs d hb, c_M_eveningsBy, a2.g]
  by_cases z : c 1 0 + 1 ≤ 9999
  · obtain ⟨m', s1, s2, s3⟩ := m_eveningGoes (xs := xs) (d := d) a2 a3 (by omega) (aw := -1) (Or.inl rfl)
    obtain ⟨g, t1, t2, t3⟩ := t_passEvening (xs := xs) (d := d) (b := b1) (by omega) a1 a3 (by omega) (-1) (by decide)
    have gb : ∀ j, g b0 j = gT b0 j := fun j => by rw [t3 b0 (by simp; omega)]
    have m51 : ∀ j, m' 151 j = gM 151 j := fun j => by rw [s3.1 151 (by omega) (by omega)]
    have m30 : ∀ j, m' 130 j = gM 130 j := fun j => by rw [s3.1 130 (by omega) (by omega)]
    refine ⟨upM (upM g b0 4 (gT b0 4 + 1)) b0 6 (gT b0 6 + 1), upM (upM m' 151 1 (gM 151 1 + 1)) 151 3 (gM 151 3 + 1), evC c (-1), 1, ?_, ?_, Or.inr rfl, ⟨⟨t2.mv (fun a h1 h2 => by rw [up_row (by omega), up_row (by omega)]), s2.mv (by rw [up_row (by omega), up_row (by omega)]), evC_wf a3 (by omega), ?_⟩, ⟨?_, ?_⟩, ⟨?_, ?_⟩, ⟨?_, ?_, ?_, ?_⟩, ⟨?_, ?_⟩, ?_, ?_, ?_, ?_⟩, evC_0, ?_, (MsL.rf.oc s3).u51.u51, by rw [up_at, if_neg (by omega), up_at, if_neg (by omega), m51]⟩
    · refine cI_of (t_hasNights (by omega) a1 a3 (by omega)) ?_
      rw [if_neg (by rw [b2i_y z]; decide)]
      refine cI_of (t1) ?_
      rw [gb, gb]
      refine if_y (by omega) ?_
      refine if_y (by omega) ?_
      rfl
    · refine if_n (by omega) ?_
      refine cI_of (s1) ?_
      rw [m51, m51]
      refine if_y (by omega) ?_
      refine if_y (by omega) ?_
      rfl
    · rw [evC_1]; omega
    · rw [up_at, if_neg (by omega), up_at, if_neg (by omega), gb, up_ne (by omega), up_ne (by omega), m30]; exact b1'
    · rw [up_ne (by omega), up_ne (by omega), m30]; exact ⟨b2, b3⟩
    · rw [up_at, if_neg (by omega), up_at, if_neg (by omega), gb]; exact c1
    · rw [up_ne (by omega), up_ne (by omega), m30]; exact c2
    · rw [up_at, if_neg (by omega), up_at, if_neg (by omega), gb, up_at, if_neg (by omega), up_at, if_neg (by omega), m51]; omega
    · rw [up_at, if_neg (by omega), up_eq, up_at, if_neg (by omega), up_eq]; omega
    · rw [up_at, if_neg (by omega), up_at, if_neg (by omega), gb, up_at, if_neg (by omega), up_at, if_neg (by omega), m51]; exact d3
    · rw [up_eq, up_eq]; omega
    · rw [up_at, if_neg (by omega), up_at, if_neg (by omega), gb]; exact e1
    · rw [up_at, if_neg (by omega), up_at, if_neg (by omega), m51]; exact e2
    · rw [up_at, if_neg (by omega), up_at, if_neg (by omega), m51]; omega
    · rw [up_at, if_neg (by omega), up_eq]; omega
    · rw [up_at, if_neg (by omega), up_at, if_neg (by omega), m51]; omega
    · rw [up_eq]; omega
    · exact TsL.up (TsL.up (t3.wk (fun a ha => by
        simp only [List.mem_cons, List.not_mem_nil, or_false] at ha ⊢
        omega)))
  · refine ⟨_, gM, c, 0, ?_, ?_, Or.inl rfl, Lm, rfl, TsL.rf.up, MsL.rf, rfl⟩
    · refine cI_of (t_hasNights (by omega) a1 a3 (by omega)) ?_
      rw [if_pos (b2i_n z)]
      refine if_y (by omega) ?_
      rfl
    · refine if_y (by omega) ?_
      rfl
theorem p_lfill (L : LvR b0 b1 c s 0 B gT gM) (hb : okB b0 b1) (hB : 0 ≤ B ∧ B ≤ 7000) {p n : Int} (hp : 0 ≤ p ∧ p < c 0 0) (hn : 0 ≤ n ∧ n ≤ 9) : OuL b0 b1 c s B gT gM (C xs d 276 0 [mR b0, mR b1, mI p, mI n] gT) (C xs d 151 0 [mR 130, mI p, mI n] gM) := by
  have Lm := L.miss hb
  obtain ⟨⟨a1, a2, a3, a4⟩, ⟨b1', b2, b3⟩, ⟨c1, c2⟩, ⟨d1, d2, d3, d4⟩, ⟨e1, e2⟩, f1, f2, f3, f4⟩ := L
  have hc := a3.1
  have has := t_has (xs := xs) (d := d) (h := gT) (b := b1) (by omega) p
  rw [a1.n] at has
  have gl : gT (b1 + 5) p = c 6 p := a1.l p hp.1 hp.2
  rw [c_Li_liveFill xs d hb, c_M_fills]
  by_cases z : c 6 p = n
  · have same : setC c 6 p n = c := by
      funext f i
      unfold setC
      by_cases y : f = 6 ∧ i = p
      · rw [if_pos y, y.1, y.2, z]
      · rw [if_neg y]
    have kM2 : CoM c (upM gM 131 (10 + 5 * p + 3) n) := by
      have := a2.set (p := p) (v := n) (f := 3) (by omega) (by omega)
      rw [show 3 + (3 : Int).toNat = 6 from rfl, same] at this
      exact this
    refine ⟨upM gT b0 3 (gT b0 3 + 1), upM gM 131 (10 + 5 * p + 3) n, c, 0, ?_, ?_, Or.inl rfl, ?_, rfl, TsL.rf.up, MsL.rf.oc (Oc.rf.up (by omega)), up_ne (by omega)⟩
    · refine cI_of (has) ?_
      rw [if_neg (by rw [b2i_y hp]; decide), gl]
      refine if_y (by omega) ?_
      rw [if_pos z]
      refine if_y (by omega) ?_
      rfl
    · refine cI_of (m_personOf (by omega) (by omega)) ?_
      rw [a2.l p hp.1 hp.2, if_pos z]
      refine cI_of (m_personRow (by omega)) ?_
      refine if_y (by omega) ?_
      refine if_y (by omega) ?_
      rfl
    · exact Lm.rep kM2
  · have kT2 : CoT b1 (setC c 6 p n) (upM gT (b1 + 5) p n) := a1.set (f := 6) (by omega) p n
    have kM2 : CoM (setC c 6 p n) (upM gM 131 (10 + 5 * p + 3) n) := a2.set (p := p) (v := n) (f := 3) (by omega) (by omega)
    have c0 : setC c 6 p n 0 0 = c 0 0 := if_neg (by omega)
    have cg : setC c 6 p n 1 0 = c 1 0 := if_neg (by omega)
    refine ⟨upM gT (b1 + 5) p n, upM gM 131 (10 + 5 * p + 3) n, setC c 6 p n, 1, ?_, ?_, Or.inr rfl, ⟨⟨kT2, kM2, setC_wf a3 (Or.inr (Or.inr (Or.inr (Or.inl ⟨rfl, hn⟩)))), by rw [cg]; exact a4⟩, ?_, ?_, ?_, ?_, ?_, ?_, ?_, ?_⟩, c0, Ow.rf.up (by simp), MsL.rf.oc (Oc.rf.up (by omega)), up_ne (by omega)⟩
    · refine cI_of (has) ?_
      rw [if_neg (by rw [b2i_y hp]; decide), gl]
      refine if_y (by omega) ?_
      rw [if_neg z]
      refine if_y (by omega) ?_
      rfl
    · refine cI_of (m_personOf (by omega) (by omega)) ?_
      rw [a2.l p hp.1 hp.2, if_neg z]
      refine cI_of (m_personRow (by omega)) ?_
      refine if_y (by omega) ?_
      refine if_y (by omega) ?_
      rfl
    · rw [up_ne (by omega), up_ne (by omega)]; exact ⟨b1', b2, b3⟩
    · rw [up_ne (by omega), up_ne (by omega)]; exact ⟨c1, c2⟩
    · rw [up_ne (by omega), up_ne (by omega), up_ne (by omega), up_ne (by omega), up_ne (by omega), up_ne (by omega), up_ne (by omega), up_ne (by omega)]
      exact ⟨by omega, d2, d3, d4⟩
    · rw [up_ne (by omega), up_ne (by omega)]; exact ⟨e1, e2⟩
    · rw [up_ne (by omega)]; omega
    · rw [up_ne (by omega)]; omega
    · rw [up_ne (by omega)]; omega
    · rw [up_ne (by omega)]; omega
abbrev dwN (x : Int) : Int := (x * 3261 + 11491) % 65536
theorem p_draw (L : LvR b0 b1 c s 0 B gT gM) (hb : okB b0 b1) {n : Int} (hn : 1 ≤ n ∧ n ≤ 16) : ∃ v, C xs d 278 0 [mR b0, mI n] gT = some ([mI v], upM gT b0 1 (dwN (gM 130 39))) ∧ C xs d 210 0 [mR 130, mI n] gM = some ([mI v], upM gM 130 39 (dwN (gM 130 39))) ∧ (0 ≤ v ∧ v < n) ∧ LvR b0 b1 c s 0 B (upM gT b0 1 (dwN (gM 130 39))) (upM gM 130 39 (dwN (gM 130 39))) := by
  obtain ⟨⟨a1, a2, a3, a4⟩, ⟨b1', b2, b3⟩, ⟨c1, c2⟩, ⟨d1, d2, d3, d4⟩, ⟨e1, e2⟩, f1, f2, f3, f4⟩ := L
  have dl : 0 ≤ dwN (gM 130 39) ∧ dwN (gM 130 39) < 65536 := by unfold dwN; omega
  have v0 : 0 ≤ dwN (gM 130 39) / 8 % n ∧ dwN (gM 130 39) / 8 % n < n := ⟨Int.emod_nonneg _ (by omega), Int.emod_lt_of_pos _ (by omega)⟩
  refine ⟨dwN (gM 130 39) / 8 % n, ?_, ?_, v0, ⟨a1.mv (fun a h1 h2 => up_row (by omega)), a2.mv (up_row (by omega)), a3, a4⟩, ⟨by rw [up_eq, up_eq], by rw [up_eq]; exact dl⟩, ⟨by rw [up_at, if_neg (by omega)]; exact c1, by rw [up_at, if_neg (by omega)]; exact c2⟩, ⟨by rw [up_at, if_neg (by omega), up_ne (by omega)]; exact d1, by rw [up_at, if_neg (by omega), up_ne (by omega)]; exact d2, by rw [up_at, if_neg (by omega), up_ne (by omega)]; exact d3, by rw [up_at, if_neg (by omega), up_ne (by omega)]; exact d4⟩, ⟨by rw [up_at, if_neg (by omega)]; exact e1, by rw [up_ne (by omega)]; exact e2⟩, by rw [up_ne (by omega)]; exact f1, by rw [up_ne (by omega)]; exact f2, by rw [up_ne (by omega)]; exact f3, by rw [up_ne (by omega)]; exact f4⟩
  · rw [c_Li_drawBy xs d (by omega), b1', show max 1 n = n by omega]
    refine if_y (by omega) ?_
    refine if_y (by omega) ?_
    refine if_y (by omega) ?_
    refine if_y (by omega) ?_
    refine if_y (by omega) ?_
    rfl
  · rw [c_M_draw]
    refine if_y (by omega) ?_
    refine if_y (by omega) ?_
    refine if_y (by omega) ?_
    refine if_y (by omega) ?_
    refine if_y (by omega) ?_
    rfl
theorem p_lany (L : LvR b0 b1 c s 0 B gT gM) (hb : okB b0 b1) (hB : 0 ≤ B ∧ B ≤ 7000) : OuL b0 b1 c s B gT gM (C xs d 277 0 [mR b0, mR b1] gT) (C xs d 214 0 [mR 130] gM) := by
  have Lm := L.miss hb
  have hc := L.1.2.2.1.1
  have tn := L.1.1.n
  have mn := L.1.2.1.n
  rw [c_Li_liveAny xs d hb, c_M_doesAny, tn, mn]
  by_cases z : c 0 0 = 0
  · refine ⟨_, gM, c, 0, ?_, ?_, Or.inl rfl, Lm, rfl, TsL.rf.up, MsL.rf, rfl⟩
    · have d1 := L.2.2.2.1.1
      have f1 := L.2.2.2.2.2.1
      refine if_y (by omega) ?_
      refine if_y (by omega) ?_
      rfl
    · refine if_y (z) ?_
      rfl
  · obtain ⟨v, s1, s2, s3, L1⟩ := p_draw (xs := xs) (d := d) L hb (n := c 0 0) (by omega)
    obtain ⟨u, t1, t2, t3, L2⟩ := p_draw (xs := xs) (d := d) L1 hb (n := 16) (by omega)
    rw [up_eq] at t1 t2 L2
    generalize hg : upM (upM gT b0 1 (dwN (gM 130 39))) b0 1 (dwN (dwN (gM 130 39))) = g at t1 L2
    generalize hm : upM (upM gM 130 39 (dwN (gM 130 39))) 130 39 (dwN (dwN (gM 130 39))) = m at t2 L2
    have fT : TsL b0 b1 gT g := by rw [← hg]; exact TsL.rf.up.up
    have fM : MsL gM m := by rw [← hm]; exact MsL.rf.u39.u39
    have r1 : g (b1 + 1) 1 = c 2 1 := L2.1.1.r 1 (by omega) (by omega)
    have r2 : m 131 1 = c 2 1 := L2.1.2.1.r 1 (by omega) (by omega)
    by_cases q : u < c 2 1
    · obtain ⟨gT', gM', c', w, x1, x2, x3, x4, x5, x6, x7, x8⟩ := p_ldrink (xs := xs) (d := d) L2 hb hB (p := v) s3
      refine ⟨gT', gM', c', w, ?_, ?_, x3, x4, x5, fT.tr x6, fM.tr x7, by rw [x8, ← hm, up_ne (by omega), up_ne (by omega)]⟩
      · refine if_n (by omega) ?_
        refine cI_of (s1) ?_
        refine cI_of (t1) ?_
        rw [r1, if_pos q]
        refine cV_of (x1) ?_
        rfl
      · refine if_n (by omega) ?_
        refine cI_of (s2) ?_
        refine cI_of (t2) ?_
        rw [r2, if_pos q]
        refine cI_of (x2) ?_
        rw [if_pos (by omega)]
    · obtain ⟨gT', gM', c', w, x1, x2, x3, x4, x5, x6, x7, x8⟩ := p_lnights (xs := xs) (d := d) L2 hb hB (n := 1) (by omega)
      refine ⟨gT', gM', c', w, ?_, ?_, x3, x4, x5, fT.tr x6, fM.tr x7, by rw [x8, ← hm, up_ne (by omega), up_ne (by omega)]⟩
      · refine if_n (by omega) ?_
        refine cI_of (s1) ?_
        refine cI_of (t1) ?_
        rw [r1, if_neg q]
        refine cV_of (x1) ?_
        rfl
      · refine if_n (by omega) ?_
        refine cI_of (s2) ?_
        refine cI_of (t2) ?_
        rw [r2, if_neg q]
        refine cI_of (x2) ?_
        rw [if_pos (by omega)]
end
