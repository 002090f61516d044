/-! EQUIV 21: the game of the class -/
abbrev canD (c : Kc) (p : Nat) : Prop := c 7 (p : Int) ≠ -1 ∧ c 6 (p : Int) ≠ 0
section
variable (ok : Kc) (f : Nat → Int)
def mxF : Nat → Int
  | 0 => -1
  | p + 1 => if canD ok p ∧ mxF p < f p then f p else mxF p
def agF : Nat → Int
  | 0 => -1
  | p + 1 => if canD ok p ∧ mxF ok f p < f p then (p : Int) else agF p
def mnF (a : Int) : Nat → Int
  | 0 => a
  | p + 1 => min (mnF a p) (f p)
theorem mxF_mono {i j : Nat} (h : i ≤ j) : mxF ok f i ≤ mxF ok f j := by
  obtain ⟨r, rfl⟩ := Nat.exists_eq_add_of_le h
  induction r with
  | zero => exact Int.le_refl _
  | succ r ih =>
    have := ih (by omega)
    rw [← Nat.add_assoc, mxF]
    split <;> omega
theorem mnF_mono {a : Int} {i j : Nat} (h : i ≤ j) : mnF f a j ≤ mnF f a i := by
  obtain ⟨r, rfl⟩ := Nat.exists_eq_add_of_le h
  induction r with
  | zero => exact Int.le_refl _
  | succ r ih =>
    have := ih (by omega)
    rw [← Nat.add_assoc, mnF]
    omega
end
section
variable {ok : Kc} {f : Nat → Int}
theorem mxF_bd {B : Int} (hf : ∀ p, canD ok p → 0 ≤ f p ∧ f p ≤ B) (hB : 0 ≤ B) : ∀ p, -1 ≤ mxF ok f p ∧ mxF ok f p ≤ B
  | 0 => ⟨Int.le_refl _, by rw [mxF]; omega⟩
  | p + 1 => by
    have := mxF_bd hf hB p
    rw [mxF]
    by_cases z : canD ok p ∧ mxF ok f p < f p
    · have := hf p z.1
      rw [if_pos z]; omega
    · rw [if_neg z]; exact this
theorem mnF_bd {a B : Int} (ha : 0 ≤ a ∧ a ≤ B) {n : Nat} (hf : ∀ p, p < n → 0 ≤ f p ∧ f p ≤ B) : ∀ p, p ≤ n → 0 ≤ mnF f a p ∧ mnF f a p ≤ B
  | 0, _ => ha
  | p + 1, hp => by
    have := mnF_bd ha hf p (by omega)
    have := hf p (by omega)
    rw [mnF]; omega
end
def clC (c : Kc) (p : Int) : Kc := setC c 5 p (max 0 (c 5 p - c 2 4))
def litN (c : Kc) : Int := ((bc (sq (litB c) (c 0 0).toNat) : Nat) : Int)
/-- what the game is worth, so many turns from its end (the butler's turn or the draught's) -/
def gv : Nat → Bool → Kc → Int
  | 0, _, c => litN c
  | t + 1, true, c => max (mxF c (fun p => gv t false (drC c (p : Int))) (c 0 0).toNat) (gv t false c)
  | t + 1, false, c => mnF (fun p => gv t true (clC c (p : Int))) (gv t true c) (c 0 0).toNat
section
variable {xs : List Int} {c : Kc} {h : mM}
theorem clC_wf (w : WfC c) {p : Int} : WfC (clC c p) := by
  obtain ⟨w1, w2, w3, w4, w5, w6, w7, w8, w9⟩ := w
  have e : ∀ f i, f ≠ 5 → clC c p f i = c f i := fun f i hf => if_neg (fun z => hf z.1)
  unfold WfC WfP
  rw [e 0 0 (by omega), e 1 0 (by omega), e 2 1 (by omega), e 2 2 (by omega), e 2 3 (by omega), e 2 4 (by omega), e 2 5 (by omega), e 2 6 (by omega)]
  refine ⟨w1, w2, w3, w4, w5, w6, w7, w8, fun i h1 h2 => ?_⟩
  obtain ⟨v1, v2, v3, v4, v5⟩ := w9 i h1 h2
  rw [e 3 i (by omega), e 4 i (by omega), e 6 i (by omega), e 7 i (by omega)]
  refine ⟨v1, v2, ?_, v4, v5⟩
  unfold clC setC
  split
  · rename_i z
    rw [← z.2]; omega
  · exact v3
theorem clC_0 {p : Int} : clC c p 0 0 = c 0 0 := by unfold clC setC; rw [if_neg (fun z => absurd z.1 (by omega))]
theorem clC_T (k : CoT 116 c h) {p : Int} : CoT 116 (clC c p) (upM h 120 p (max 0 (c 5 p - c 2 4))) := by
  have e : ∀ f i, f ≠ 5 → clC c p f i = c f i := fun f i hf => if_neg (fun z => hf z.1)
  unfold CoT
  rw [e 0 0 (by omega), e 1 0 (by omega)]
  refine ⟨by rw [up_ne (by omega)]; exact k.n, by rw [up_ne (by omega)]; exact k.g, fun i h1 h2 => ?_, fun i h1 h2 => ?_, fun i h1 h2 => ?_, fun i h1 h2 => ?_, fun i h1 h2 => ?_, fun i h1 h2 => ?_⟩
  · rw [up_ne (by omega), e _ _ (by omega)]; exact k.r i h1 h2
  · rw [up_ne (by omega), e _ _ (by omega)]; exact k.p i h1 h2
  · rw [up_ne (by omega), e _ _ (by omega)]; exact k.m i h1 h2
  · rw [show 116 + 4 = 120 from rfl, up_at]
    unfold clC setC
    by_cases z : i = p
    · rw [if_pos z, if_pos ⟨rfl, z⟩]
    · rw [if_neg z, if_neg (fun y => z y.2)]; exact k.w i h1 h2
  · rw [up_ne (by omega), e _ _ (by omega)]; exact k.l i h1 h2
  · rw [up_ne (by omega), e _ _ (by omega)]; exact k.q i h1 h2
theorem clC_back {p : Int} (k : CoT 116 (clC c p) h) : CoT 116 c (upM h 120 p (c 5 p)) := by
  have e : ∀ f i, f ≠ 5 → clC c p f i = c f i := fun f i hf => if_neg (fun z => hf z.1)
  have n0 : clC c p 0 0 = c 0 0 := clC_0
  unfold CoT
  refine ⟨by rw [up_ne (by omega), ← n0]; exact k.n, by rw [up_ne (by omega), ← e 1 0 (by omega)]; exact k.g, fun i h1 h2 => ?_, fun i h1 h2 => ?_, fun i h1 h2 => ?_, fun i h1 h2 => ?_, fun i h1 h2 => ?_, fun i h1 h2 => ?_⟩
  · rw [up_ne (by omega), ← e _ _ (by omega)]; exact k.r i h1 h2
  · rw [up_ne (by omega), ← e _ _ (by omega)]; exact k.p i h1 (by rw [n0]; exact h2)
  · rw [up_ne (by omega), ← e _ _ (by omega)]; exact k.m i h1 (by rw [n0]; exact h2)
  · rw [show 116 + 4 = 120 from rfl, up_at]
    by_cases z : i = p
    · rw [if_pos z, z]
    · rw [if_neg z]
      have := k.w i h1 (by rw [n0]; exact h2)
      rw [show 116 + 4 = 120 from rfl] at this
      rw [this]
      exact if_neg (fun y => z y.2)
  · rw [up_ne (by omega), ← e _ _ (by omega)]; exact k.l i h1 (by rw [n0]; exact h2)
  · rw [up_ne (by omega), ← e _ _ (by omega)]; exact k.q i h1 (by rw [n0]; exact h2)
theorem drC_back {p : Int} (k : CoT 116 (drC c p) h) : CoT 116 c (upM (upM h 121 p (c 6 p)) 120 (c 7 p) (c 5 (c 7 p))) := by
  have e : ∀ f i, f ≠ 5 → f ≠ 6 → drC c p f i = c f i := fun f i h5 h6 => by unfold drC; rw [if_neg (fun z => h6 z.1), if_neg (fun z => h5 z.1)]
  have n0 : drC c p 0 0 = c 0 0 := drC_0
  unfold CoT
  refine ⟨by rw [up_ne (by omega), up_ne (by omega), ← n0]; exact k.n, by rw [up_ne (by omega), up_ne (by omega), ← e 1 0 (by omega) (by omega)]; exact k.g, fun i h1 h2 => ?_, fun i h1 h2 => ?_, fun i h1 h2 => ?_, fun i h1 h2 => ?_, fun i h1 h2 => ?_, fun i h1 h2 => ?_⟩
  · rw [up_ne (by omega), up_ne (by omega), ← e _ _ (by omega) (by omega)]; exact k.r i h1 h2
  · rw [up_ne (by omega), up_ne (by omega), ← e _ _ (by omega) (by omega)]; exact k.p i h1 (by rw [n0]; exact h2)
  · rw [up_ne (by omega), up_ne (by omega), ← e _ _ (by omega) (by omega)]; exact k.m i h1 (by rw [n0]; exact h2)
  · rw [show 116 + 4 = 120 from rfl, up_at]
    by_cases z : i = c 7 p
    · rw [if_pos z, z]
    · rw [if_neg z, up_ne (by omega)]
      have := k.w i h1 (by rw [n0]; exact h2)
      rw [show 116 + 4 = 120 from rfl] at this
      rw [this]
      unfold drC
      rw [if_neg (fun y => by cases y.1), if_neg (fun y => z y.2)]
  · rw [show 116 + 5 = 121 from rfl, up_ne (by omega), up_at]
    by_cases z : i = p
    · rw [if_pos z, z]
    · rw [if_neg z]
      have := k.l i h1 (by rw [n0]; exact h2)
      rw [show 116 + 5 = 121 from rfl] at this
      rw [this]
      unfold drC
      rw [if_neg (fun y => z y.2), if_neg (fun y => by cases y.1)]
  · rw [up_ne (by omega), up_ne (by omega), ← e _ _ (by omega) (by omega)]; exact k.q i h1 (by rw [n0]; exact h2)
theorem litN_bd (w : WfC c) : 0 ≤ litN c ∧ litN c ≤ 7 := by
  have := bc_7 (sq (litB c) (c 0 0).toNat) (sq_small (by have := w.1; omega))
  unfold litN
  omega
theorem litN_le (w : WfC c) : litN c ≤ c 0 0 := by
  have := w.1
  have := bc_le (c 0 0).toNat (by omega) _ (sq_lt (litB c) (c 0 0).toNat)
  unfold litN
  omega
theorem gv_bd : ∀ (t : Nat) (b : Bool) (c : Kc), WfC c → 0 ≤ gv t b c ∧ gv t b c ≤ 7
  | 0, _, c, w => litN_bd w
  | t + 1, true, c, w => by
    have hn := w.1
    have a := gv_bd t false c w
    have b : ∀ i, i ≤ (c 0 0).toNat → mxF c (fun p => gv t false (drC c (p : Int))) i ≤ 7 := fun i => by
      induction i with
      | zero => intro _; rw [mxF]; omega
      | succ i ih =>
        intro hi
        have := ih (by omega)
        rw [mxF]
        by_cases z : canD c i ∧ mxF c (fun p => gv t false (drC c (p : Int))) i < gv t false (drC c (i : Int))
        · rw [if_pos z]
          exact (gv_bd t false _ (drC_wf w (by omega) z.1.1 z.1.2)).2
        · rw [if_neg z]; exact this
    have := b _ (Nat.le_refl _)
    rw [gv]
    omega
  | t + 1, false, c, w => by
    rw [gv]
    exact mnF_bd (gv_bd t true c w) (n := (c 0 0).toNat) (fun p _ => gv_bd t true _ (clC_wf w)) _ (Nat.le_refl _)
theorem t_litCount {d : Nat} (k : CoT 116 c h) (w : WfC c) : C xs d 260 0 [mR 115] h = some ([mI (litN c)], h) := by
  rw [c_Ga_litCount]
  refine cI_of (t_litSet (Or.inl rfl) k w) ?_
  refine cI_of (t_bitCount (sq_small (by have := w.1; omega))) ?_
  rfl
theorem gv_le : ∀ (t : Nat) (b : Bool) (c : Kc), WfC c → gv t b c ≤ c 0 0
  | 0, _, c, w => litN_le w
  | t + 1, true, c, w => by
    have hn := w.1
    have a := gv_le t false c w
    have b : ∀ i, i ≤ (c 0 0).toNat → mxF c (fun p => gv t false (drC c (p : Int))) i ≤ c 0 0 := fun i => by
      induction i with
      | zero => intro _; rw [mxF]; omega
      | succ i ih =>
        intro hi
        have := ih (by omega)
        rw [mxF]
        by_cases z : canD c i ∧ mxF c (fun p => gv t false (drC c (p : Int))) i < gv t false (drC c (i : Int))
        · rw [if_pos z]
          have := gv_le t false _ (drC_wf w (p := (i : Int)) (by omega) z.1.1 z.1.2)
          rwa [drC_0] at this
        · rw [if_neg z]; exact this
    have := b _ (Nat.le_refl _)
    rw [gv]
    omega
  | t + 1, false, c, w => by
    have a := gv_le t true c w
    have m := mnF_mono (fun p => gv t true (clC c (p : Int))) (a := gv t true c) (show 0 ≤ (c 0 0).toNat by omega)
    rw [mnF] at m
    rw [gv]
    omega
/-- what is found when what lies outside of low and high doesn't count -/
def AB (r v low high : Int) : Prop := (v ≤ low → r ≤ low) ∧ (high ≤ v → high ≤ r) ∧ (low < v → v < high → r = v)
theorem AB.rf {v low high : Int} : AB v v low high := ⟨fun z => z, fun z => z, fun _ _ => rfl⟩
theorem AB.max {r s u v low high : Int} (a : AB r u low high) (l : low < high) (hr : r < high) (b : AB s v (max low r) high) : AB (max r s) (max u v) low high := by
  obtain ⟨a1, a2, a3⟩ := a
  obtain ⟨b1, b2, b3⟩ := b
  refine ⟨fun z => ?_, fun z => ?_, fun z1 z2 => ?_⟩ <;> omega
theorem AB.min {r s u v low high : Int} (a : AB r u low high) (l : low < high) (hr : low < r) (b : AB s v low (min high r)) : AB (min r s) (min u v) low high := by
  obtain ⟨a1, a2, a3⟩ := a
  obtain ⟨b1, b2, b3⟩ := b
  refine ⟨fun z => ?_, fun z => ?_, fun z1 z2 => ?_⟩ <;> omega
abbrev gaL : List Nat := [120, 121]
def TbP (xs : List Int) (t : Nat) (id : Nat) (b : Bool) : Prop := ∀ (d turn : Nat) (c : Kc) (h : mM) (low high : Int), CoT 116 c h → WfC c → h 115 1 = ((turn + t : Nat) : Int) → turn + t ≤ 4 → -1 ≤ low → low < high → high ≤ 8 → ∃ r h', C xs (d + t) id 0 [mR 115, mI (turn : Int), mI low, mI high] h = some ([mI r], h') ∧ AB r (gv t b c) low high ∧ (0 ≤ r ∧ r ≤ 7) ∧ CoT 116 c h' ∧ Ow gaL h h'
theorem t_behind {t : Nat} (H : TbP xs t 263 false) {d turn : Nat} (k : CoT 116 c h) (w : WfC c) (ht : h 115 1 = ((turn + 1 + t : Nat) : Int)) (h4 : turn + 1 + t ≤ 4) {low high : Int} (l1 : -1 ≤ low) (l2 : low < high) (l3 : high ≤ 8) {p : Nat} (hp : (p : Int) < c 0 0) (cd : canD c p) : ∃ r h', C xs (d + t) 262 0 [mR 115, mI (p : Int), mI (turn : Int), mI low, mI high] h = some ([mI r], h') ∧ AB r (gv t false (drC c (p : Int))) low high ∧ (0 ≤ r ∧ r ≤ 7) ∧ CoT 116 c h' ∧ Ow gaL h h' := by
  have hn := w.1
  have wp := w.2.2.2.2.2.2.2.2 (p : Int) (by omega) hp
  have hq : 0 ≤ c 7 (p : Int) ∧ c 7 (p : Int) < c 0 0 := by
    rcases wp.2.2.2.2 with z | z
    · exact absurd z cd.1
    · exact z
  have e122 : h 122 (p : Int) = c 7 (p : Int) := k.q _ (by omega) hp
  have e120 : h 120 (c 7 (p : Int)) = c 5 (c 7 (p : Int)) := k.w _ hq.1 hq.2
  have dk := drC_T k (p := (p : Int))
  have ow : Ow gaL h (upM (upM h (116 + 5) (p : Int) (c 6 (p : Int) - 1)) (116 + 4) (c 7 (p : Int)) (min 99 (c 5 (c 7 (p : Int)) + warmI c (p : Int)))) := (Ow.rf.up (by simp)).up (by simp)
  obtain ⟨r, h2, r1, r2, r3, r4, r5⟩ := H d (turn + 1) (drC c (p : Int)) _ low high dk (drC_wf w ⟨by omega, hp⟩ cd.1 cd.2) (by rw [ow.at 115 rfl]; exact ht) h4 l1 l2 l3
  have l121 : h2 121 (p : Int) = c 6 (p : Int) - 1 := by
    have := r4.l (p : Int) (by omega) (by rw [drC_0]; exact hp)
    rw [show (116 + 5 : Nat) = 121 from rfl] at this
    rw [this]
    unfold drC
    rw [if_pos ⟨rfl, rfl⟩]
  have wl := wp.2.2.2.1
  refine ⟨r, _, ?_, r2, r3, drC_back r4, ((ow.tr r5 (fun _ z => z) (fun _ z => z)).up (by simp)).up (by simp)⟩
  rw [c_Ga_behindDrink, e122, e120]
  refine if_y (by omega) ?_
  refine if_y (by omega) ?_
  refine cI_of (t_letDrink (Or.inl rfl) k w ⟨by omega, hp⟩ cd.1 cd.2) ?_
  refine if_y (by omega) ?_
  rw [show (turn : Int) + 1 = ((turn + 1 : Nat) : Int) by omega]
  refine cI_of (r1) ?_
  rw [l121]
  refine if_y (by omega) ?_
  refine if_y (by omega) ?_
  refine if_y (by omega) ?_
  refine if_y (by omega) ?_
  rw [show c 6 (p : Int) - 1 + 1 = c 6 (p : Int) by omega]
theorem t_butler {t : Nat} (H : TbP xs t 263 false) : TbP xs (t + 1) 261 true := by
  intro d turn c h low high k w ht h4 l1 l2 l3
  have hn := w.1
  have ed : d + (t + 1) = (d + 1) + t := by omega
  rw [ed]
  obtain ⟨r0, h0, q1, q2, q3, q4, q5⟩ := H (d + 1) (turn + 1) c h low high k w (by rw [ht]; congr 1; omega) (by omega) l1 l2 l3
  generalize hF : (fun p : Nat => gv t false (drC c (p : Int))) = F
  have gE : gv (t + 1) true c = max (mxF c F (c 0 0).toNat) (gv t false c) := by rw [gv, hF]
  rw [gE]
  have g0 := gv_bd t false c w
  have key : ∀ (m p : Nat) (best : Int) (g : mM), p + m = (c 0 0).toNat → CoT 116 c g → Ow gaL h g → AB best (max (mxF c F p) (gv t false c)) low high → (0 ≤ best ∧ best ≤ 7) → ∃ r h', X xs (d + 1 + t) k_Ga_butler 17 [mR 115, mI (turn : Int), mI low, mI high, mI best, mI (p : Int)] [] g = some ([mI r], h') ∧ AB r (max (mxF c F (c 0 0).toNat) (gv t false c)) low high ∧ (0 ≤ r ∧ r ≤ 7) ∧ CoT 116 c h' ∧ Ow gaL h h' := by
    intro m
    induction m with
    | zero =>
      intro p best g hp kg og ab bb
      obtain rfl : p = (c 0 0).toNat := by omega
      refine ⟨best, g, ?_, ab, bb, kg, og⟩
      have := kg.n
      rw [e_Ga_butler_17, kg.n]
      refine if_n (by omega) ?_
      rfl
    | succ m ih =>
      intro p best g hp kg og ab bb
      by_cases bh : best < high
      · by_cases cd : canD c p
        · obtain ⟨r, g2, s1, s2, s3, s4, s5⟩ := t_behind H (d := d + 1) (turn := turn) (low := max low best) (high := high) kg w (by rw [og.at 115 rfl, ht]; congr 1; omega) (by omega) (by omega) (by omega) l3 (p := p) (by omega) cd
          have ab2 := ab.max l2 bh s2
          have fp : gv t false (drC c (p : Int)) = F p := by rw [← hF]
          rw [fp] at ab2
          have eM : max (max (mxF c F p) (gv t false c)) (F p) = max (mxF c F (p + 1)) (gv t false c) := by
            rw [mxF]
            by_cases z : mxF c F p < F p
            · rw [if_pos ⟨cd, z⟩]; omega
            · rw [if_neg (fun y => z y.2)]; omega
          rw [eM] at ab2
          obtain ⟨r', h', u1, u2⟩ := ih (p + 1) (max best r) g2 (by omega) s4 (og.tr s5 (fun _ z => z) (fun _ z => z)) ab2 (by omega)
          refine ⟨r', h', ?_, u2⟩
          rw [e_Ga_butler_17, kg.n]
          refine if_y (by omega) ?_
          refine if_y (by omega) ?_
          refine cI_of (t_canDrink (Or.inl rfl) kg w ⟨by omega, by omega⟩) ?_
          refine if_n ((by rw [b2i_y cd]; decide)) ?_
          refine cI_of (s1) ?_
          rw [e_Ga_butler_41]
          refine if_y (by omega) ?_
          exact u1
        · have eM : mxF c F (p + 1) = mxF c F p := by rw [mxF, if_neg (fun y => cd y.1)]
          obtain ⟨r', h', u1, u2⟩ := ih (p + 1) best g (by omega) kg og (by rw [eM]; exact ab) bb
          refine ⟨r', h', ?_, u2⟩
          rw [e_Ga_butler_17, kg.n]
          refine if_y (by omega) ?_
          refine if_y (by omega) ?_
          refine cI_of (t_canDrink (Or.inl rfl) kg w ⟨by omega, by omega⟩) ?_
          refine if_y (b2i_n cd) ?_
          rw [e_Ga_butler_41]
          refine if_y (by omega) ?_
          exact u1
      · have mono := mxF_mono c F (show p ≤ (c 0 0).toNat by omega)
        refine ⟨best, g, ?_, ?_, bb, kg, og⟩
        · rw [e_Ga_butler_17, kg.n]
          refine if_y (by omega) ?_
          refine if_n (by omega) ?_
          rfl
        · obtain ⟨a1, a2, a3⟩ := ab
          refine ⟨fun z => ?_, fun z => ?_, fun z1 z2 => ?_⟩ <;> omega
  obtain ⟨r, h', u1, u2⟩ := key (c 0 0).toNat 0 r0 h0 (by omega) q4 q5 (by rw [mxF, show max (-1) (gv t false c) = gv t false c by omega]; exact q2) q3
  refine ⟨r, h', ?_, u2⟩
  rw [c_Ga_butler, ht]
  refine if_y (by omega) ?_
  refine if_y (by omega) ?_
  rw [show (turn : Int) + 1 = ((turn + 1 : Nat) : Int) by omega]
  refine cI_of (q1) ?_
  exact u1
theorem t_draught {t : Nat} (H : TbP xs t 261 true) : TbP xs (t + 1) 263 false := by
  intro d turn c h low high k w ht h4 l1 l2 l3
  have hn := w.1
  have cold := w.2.2.2.2.2.1
  obtain ⟨r0, h0, q1, q2, q3, q4, q5⟩ := H d (turn + 1) c h low high k w (by rw [ht]; congr 1; omega) (by omega) l1 l2 l3
  generalize hF : (fun p : Nat => gv t true (clC c (p : Int))) = F
  have gE : gv (t + 1) false c = mnF F (gv t true c) (c 0 0).toNat := by rw [gv, hF]
  rw [gE]
  have key : ∀ (m p : Nat) (best : Int) (g : mM) (x6 x7 : mv), p + m = (c 0 0).toNat → CoT 116 c g → Ow gaL h g → AB best (mnF F (gv t true c) p) low high → (0 ≤ best ∧ best ≤ 7) → ∃ r h', X xs (d + (t + 1)) k_Ga_draught 17 [mR 115, mI (turn : Int), mI low, mI high, mI best, mI (p : Int), x6, x7] [] g = some ([mI r], h') ∧ AB r (mnF F (gv t true c) (c 0 0).toNat) low high ∧ (0 ≤ r ∧ r ≤ 7) ∧ CoT 116 c h' ∧ Ow gaL h h' := by
    intro m
    induction m with
    | zero =>
      intro p best g x6 x7 hp kg og ab bb
      obtain rfl : p = (c 0 0).toNat := by omega
      refine ⟨best, g, ?_, ab, bb, kg, og⟩
      rw [e_Ga_draught_17, kg.n]
      refine if_n (by omega) ?_
      rfl
    | succ m ih =>
      intro p best g x6 x7 hp kg og ab bb
      have w0 : g 120 (p : Int) = c 5 (p : Int) := kg.w _ (by omega) (by omega)
      have wb := (w.2.2.2.2.2.2.2.2 (p : Int) (by omega) (by omega)).2.2.1
      have e1 : max 0 (c 5 (p : Int) - 1 * c 2 4) = max 0 (c 5 (p : Int) - c 2 4) := by rw [Int.one_mul]
      by_cases bh : low < best
      · by_cases cl : max 0 (c 5 (p : Int) - c 2 4) < c 5 (p : Int)
        · obtain ⟨r, g2, s1, s2, s3, s4, s5⟩ := H d (turn + 1) (clC c (p : Int)) (upM g 120 (p : Int) (max 0 (c 5 (p : Int) - c 2 4))) low (min high best) (clC_T kg) (clC_wf w) (by rw [up_ne (by omega), og.at 115 rfl, ht]; congr 1; omega) (by omega) l1 (by omega) (by omega)
          have ab2 := ab.min l2 bh s2
          have fp : gv t true (clC c (p : Int)) = F p := by rw [← hF]
          rw [fp, ← mnF] at ab2
          have og2 : Ow gaL h g2 := (og.up (b := 120) (by simp)).tr s5 (fun _ z => z) (fun _ z => z)
          obtain ⟨r', h', u1, u2⟩ := ih (p + 1) (min best r) (upM g2 120 (p : Int) (c 5 (p : Int))) (mI (c 5 (p : Int))) (mI (max 0 (c 5 (p : Int) - c 2 4))) (by omega) (clC_back s4) (og2.up (by simp)) ab2 (by omega)
          refine ⟨r', h', ?_, u2⟩
          rw [e_Ga_draught_17, kg.n, w0]
          refine if_y (by omega) ?_
          refine if_y (by omega) ?_
          refine if_y (by omega) ?_
          refine cI_of (t_warmthIn (Or.inl rfl) kg w ⟨by omega, by omega⟩ (by omega)) ?_
          rw [e1]
          refine if_y (by omega) ?_
          refine if_y (by omega) ?_
          refine if_y (by omega) ?_
          rw [show (turn : Int) + 1 = ((turn + 1 : Nat) : Int) by omega, ← Nat.add_assoc, C_1]
          refine cI_of (s1) ?_
          refine if_y (by omega) ?_
          rw [e_Ga_draught_64]
          refine if_y (by omega) ?_
          exact u1
        · have same : clC c (p : Int) = c := by
            funext f i
            unfold clC setC
            by_cases z : f = 5 ∧ i = (p : Int)
            · rw [if_pos z, z.1, z.2]; omega
            · rw [if_neg z]
          have mono := mnF_mono F (a := gv t true c) (show 0 ≤ p by omega)
          have fp : F p = gv t true c := by rw [← hF]; dsimp only; rw [same]
          have eM : mnF F (gv t true c) (p + 1) = mnF F (gv t true c) p := by
            rw [mnF] at mono
            rw [mnF, fp]
            omega
          obtain ⟨r', h', u1, u2⟩ := ih (p + 1) best g (mI (c 5 (p : Int))) (mI (max 0 (c 5 (p : Int) - c 2 4))) (by omega) kg og (by rw [eM]; exact ab) bb
          refine ⟨r', h', ?_, u2⟩
          rw [e_Ga_draught_17, kg.n, w0]
          refine if_y (by omega) ?_
          refine if_y (by omega) ?_
          refine if_y (by omega) ?_
          refine cI_of (t_warmthIn (Or.inl rfl) kg w ⟨by omega, by omega⟩ (by omega)) ?_
          rw [e1]
          refine if_n (by omega) ?_
          rw [e_Ga_draught_64]
          refine if_y (by omega) ?_
          exact u1
      · have mono := mnF_mono F (a := gv t true c) (show p ≤ (c 0 0).toNat by omega)
        refine ⟨best, g, ?_, ?_, bb, kg, og⟩
        · rw [e_Ga_draught_17, kg.n]
          refine if_y (by omega) ?_
          refine if_n (by omega) ?_
          rfl
        · obtain ⟨a1, a2, a3⟩ := ab
          refine ⟨fun z => ?_, fun z => ?_, fun z1 z2 => ?_⟩ <;> omega
  obtain ⟨r, h', u1, u2⟩ := key (c 0 0).toNat 0 r0 h0 (mC 0) (mC 0) (by omega) q4 q5 q2 q3
  refine ⟨r, h', ?_, u2⟩
  rw [c_Ga_draught, ht]
  refine if_y (by omega) ?_
  refine if_y (by omega) ?_
  rw [show (turn : Int) + 1 = ((turn + 1 : Nat) : Int) by omega, ← Nat.add_assoc, C_1]
  refine cI_of (q1) ?_
  exact u1
theorem t_leaf : TbP xs 0 261 true ∧ TbP xs 0 263 false := by
  constructor <;> intro d turn c h low high k w ht h4 l1 l2 l3
  · refine ⟨litN c, h, ?_, AB.rf, litN_bd w, k, Ow.rf⟩
    rw [c_Ga_butler, ht]
    refine if_n (by omega) ?_
    refine cI_of (t_litCount k w) ?_
    rfl
  · refine ⟨litN c, h, ?_, AB.rf, litN_bd w, k, Ow.rf⟩
    rw [c_Ga_draught, ht]
    refine if_n (by omega) ?_
    refine cI_of (t_litCount k w) ?_
    rfl
theorem t_plays : ∀ t, TbP xs t 261 true ∧ TbP xs t 263 false
  | 0 => t_leaf
  | t + 1 => ⟨t_butler (t_plays t).2, t_draught (t_plays t).1⟩
theorem AB.up {r v low high : Int} (a : AB r v low high) (h : v < high) : (low < r ↔ low < v) ∧ (low < v → r = v) := by
  obtain ⟨a1, a2, a3⟩ := a
  by_cases z : low < v
  · have := a3 z h
    exact ⟨by omega, fun _ => this⟩
  · have := a1 (by omega)
    exact ⟨by omega, fun y => absurd y z⟩
abbrev fnG (t : Nat) (c : Kc) : Nat → Int := fun p => gv t false (drC c (p : Int))
theorem gv_b {t : Nat} : gv (t + 1) true c = max (mxF c (fnG t c) (c 0 0).toNat) (gv t false c) := rfl
/-- the butler's first move -/
def mvG (t : Nat) (c : Kc) : Int := if mxF c (fnG t c) (c 0 0).toNat < gv t false c then -1 else agF c (fnG t c) (c 0 0).toNat
abbrev plL : List Nat := [115, 116, 117, 118, 119, 120, 121, 122, 123, 124]
theorem t_playOut {d t : Nat} (ht : t ≤ 3) (k : CoT 12 c h) (w : WfC c) : ∃ h', C xs (d + 4) 259 0 [mR 115, mR 12, mI ((t + 1 : Nat) : Int)] h = some ([], h') ∧ h' 115 2 = gv (t + 1) true c ∧ h' 115 3 = mvG t c ∧ Ow plL h h' := by
  have hn := w.1
  obtain ⟨h0, a1, a2, -, a4⟩ := t_takeFrom (xs := xs) (d := d + 4) (b0 := 116) (b1 := 12) (by omega) k hn
  have o0 : Ow plL h h0 := a4.wk (by decide)
  have n0 := a2.n
  have TB := (t_plays (xs := xs) t).2
  have dE : d + 4 = (d + (4 - t)) + t := by omega
  have key : ∀ (m p : Nat) (g : mM) (x5 : mv), p + m = (c 0 0).toNat → CoT 116 c g → Ow plL h g → g 115 1 = ((t + 1 : Nat) : Int) → g 115 2 = mxF c (fnG t c) p → g 115 3 = agF c (fnG t c) p → ∃ h', X xs (d + 4) k_Ga_playOut 32 [mR 115, mR 12, mI ((t + 1 : Nat) : Int), mI (c 0 0 + 1), mI (p : Int), x5] [] g = some ([], h') ∧ h' 115 2 = gv (t + 1) true c ∧ h' 115 3 = mvG t c ∧ Ow plL h h' := by
    intro m
    induction m with
    | zero =>
      intro p g x5 hp kg og g1 g2 g3
      obtain rfl : p = (c 0 0).toNat := by omega
      have lo := mxF_mono c (fnG t c) (show 0 ≤ (c 0 0).toNat by omega)
      have hi : mxF c (fnG t c) (c 0 0).toNat ≤ c 0 0 := by
        have := gv_le (t + 1) true c w
        rw [gv_b] at this
        omega
      rw [mxF] at lo
      have gl := gv_le t false c w
      obtain ⟨r, g', s1, s2, s3, s4, s5⟩ := TB (d + (4 - t)) 1 c g (mxF c (fnG t c) (c 0 0).toNat) (c 0 0 + 1) kg w (by rw [g1]; congr 1; omega) (by omega) lo (by omega) (by omega)
      obtain ⟨u1, u2⟩ := s2.up (by omega)
      rw [← dE] at s1
      have e2 : g' 115 2 = mxF c (fnG t c) (c 0 0).toNat := by rw [s5.at 115 rfl, g2]
      by_cases z : mxF c (fnG t c) (c 0 0).toNat < gv t false c
      · refine ⟨upM (upM g' 115 2 r) 115 3 (-1), ?_, ?_, ?_, ((og.tr s5 (fun _ z => z) (by decide)).up (by simp)).up (by simp)⟩
        · rw [e_Ga_playOut_32, kg.n, g2]
          refine if_n (by omega) ?_
          refine cI_of (s1) ?_
          rw [e2]
          refine if_y (by omega) ?_
          rfl
        · rw [up_at, if_neg (by omega), up_eq, u2 z, gv_b]
          omega
        · rw [up_eq, mvG, if_pos z]
      · refine ⟨g', ?_, ?_, ?_, og.tr s5 (fun _ z => z) (by decide)⟩
        · rw [e_Ga_playOut_32, kg.n, g2]
          refine if_n (by omega) ?_
          refine cI_of (s1) ?_
          rw [e2]
          refine if_n (by omega) ?_
          rfl
        · rw [e2, gv_b]
          omega
        · rw [s5.at 115 rfl, g3, mvG, if_neg z]
    | succ m ih =>
      intro p g x5 hp kg og g1 g2 g3
      have lo := mxF_mono c (fnG t c) (show 0 ≤ p by omega)
      have hi : mxF c (fnG t c) p ≤ c 0 0 := by
        have := mxF_mono c (fnG t c) (show p ≤ (c 0 0).toNat by omega)
        have := gv_le (t + 1) true c w
        rw [gv_b] at this
        omega
      rw [mxF] at lo
      by_cases cd : canD c p
      · obtain ⟨r, g', s1, s2, s3, s4, s5⟩ := t_behind TB (d := d + (4 - t)) (turn := 0) (low := mxF c (fnG t c) p) (high := c 0 0 + 1) kg w (by rw [g1]; congr 1; omega) (by omega) lo (by omega) (by omega) (p := p) (by omega) cd
        rw [← dE] at s1
        have gl := gv_le t false _ (drC_wf w (p := (p : Int)) ⟨by omega, by omega⟩ cd.1 cd.2)
        rw [drC_0] at gl
        obtain ⟨u1, u2⟩ := s2.up (by omega)
        have e2 : g' 115 2 = mxF c (fnG t c) p := by rw [s5.at 115 rfl, g2]
        have og' : Ow plL h g' := og.tr s5 (fun _ z => z) (by decide)
        by_cases z : mxF c (fnG t c) p < gv t false (drC c (p : Int))
        · obtain ⟨h', v1, v2⟩ := ih (p + 1) (upM (upM g' 115 2 r) 115 3 (p : Int)) (mI r) (by omega) (s4.mv (fun a h1 h2 => by rw [up_row (by omega), up_row (by omega)])) ((og'.up (by simp)).up (by simp)) (by rw [up_at, if_neg (by omega), up_at, if_neg (by omega), s5.at 115 rfl, g1]) (by rw [up_at, if_neg (by omega), up_eq, u2 z, mxF, if_pos ⟨cd, z⟩]) (by rw [up_eq, agF, if_pos ⟨cd, z⟩])
          refine ⟨h', ?_, v2⟩
          rw [e_Ga_playOut_32, kg.n, g2]
          refine if_y (by omega) ?_
          refine cI_of (t_canDrink (Or.inl rfl) kg w ⟨by omega, by omega⟩) ?_
          refine if_n ((by rw [b2i_y cd]; decide)) ?_
          rw [g2]
          refine cI_of (s1) ?_
          rw [e2]
          refine if_y (by omega) ?_
          rw [e_Ga_playOut_60]
          refine if_y (by omega) ?_
          exact v1
        · obtain ⟨h', v1, v2⟩ := ih (p + 1) g' (mI r) (by omega) s4 og' (by rw [s5.at 115 rfl, g1]) (by rw [e2, mxF, if_neg (fun y => z y.2)]) (by rw [s5.at 115 rfl, g3, agF, if_neg (fun y => z y.2)])
          refine ⟨h', ?_, v2⟩
          rw [e_Ga_playOut_32, kg.n, g2]
          refine if_y (by omega) ?_
          refine cI_of (t_canDrink (Or.inl rfl) kg w ⟨by omega, by omega⟩) ?_
          refine if_n ((by rw [b2i_y cd]; decide)) ?_
          rw [g2]
          refine cI_of (s1) ?_
          rw [e2]
          refine if_n (by omega) ?_
          rw [e_Ga_playOut_60]
          refine if_y (by omega) ?_
          exact v1
      · obtain ⟨h', v1, v2⟩ := ih (p + 1) g x5 (by omega) kg og g1 (by rw [g2, mxF, if_neg (fun y => cd y.1)]) (by rw [g3, agF, if_neg (fun y => cd y.1)])
        refine ⟨h', ?_, v2⟩
        rw [e_Ga_playOut_32, kg.n]
        refine if_y (by omega) ?_
        refine cI_of (t_canDrink (Or.inl rfl) kg w ⟨by omega, by omega⟩) ?_
        refine if_y (b2i_n cd) ?_
        rw [e_Ga_playOut_60]
        refine if_y (by omega) ?_
        exact v1
  obtain ⟨h', v1, v2⟩ := key (c 0 0).toNat 0 (upM (upM (upM h0 115 1 (min ((t + 1 : Nat) : Int) 4)) 115 3 (-1)) 115 2 (-1)) (mC 0) (by omega) (a2.mv (fun a h1 h2 => by rw [up_row (by omega), up_row (by omega), up_row (by omega)])) (((o0.up (by simp)).up (by simp)).up (by simp)) (by rw [up_at, if_neg (by omega), up_at, if_neg (by omega), up_eq]; omega) (by rw [up_eq, mxF]) (by rw [up_at, if_neg (by omega), up_eq, agF])
  refine ⟨h', ?_, v2⟩
  rw [c_Ga_playOut]
  refine cV_of (a1) ?_
  refine if_n (by omega) ?_
  rw [n0]
  refine if_y (by omega) ?_
  exact v1
theorem t_playOut0 {d : Nat} (k : CoT 12 c h) (w : WfC c) : ∃ h', C xs d 259 0 [mR 115, mR 12, mI 0] h = some ([], h') ∧ h' 115 2 = litN c ∧ Ow plL h h' := by
  obtain ⟨h0, a1, a2, -, a4⟩ := t_takeFrom (xs := xs) (d := d) (b0 := 116) (b1 := 12) (by omega) k w.1
  have o0 : Ow plL h h0 := a4.wk (by decide)
  refine ⟨upM (upM (upM h0 115 1 (min 0 4)) 115 3 (-1)) 115 2 (litN c), ?_, up_eq, ((o0.up (by simp)).up (by simp)).up (by simp)⟩
  rw [c_Ga_playOut]
  refine cV_of (a1) ?_
  refine if_y (by omega) ?_
  refine cI_of (t_litCount (a2.mv (fun a h1 h2 => by rw [up_row (by omega), up_row (by omega)])) w) ?_
  rfl
end
