/-! EQUIV 26: the parts of a map -/
theorem up_same {h : mM} {a : Nat} {i v : Int} (e : h a i = v) : upM h a i v = h := by
  funext b j
  unfold upM
  by_cases z : b = a ∧ j = i
  · rw [if_pos z, z.1, z.2, e]
  · rw [if_neg z]
theorem TsF.cg {g g' : mM} (p : TsF g g') {b : Nat} (hb : b ≠ 9) {i v : Int} : TsF (upM g b i v) (upM g' b i v) := by
  refine ⟨fun a ha => ?_, fun j hj => by rw [up_ne (by omega), up_ne (by omega)]; exact p.2 j hj⟩
  by_cases e : a = b
  · subst e
    funext j
    rw [up_at, up_at, p.1 a ha]
  · rw [up_row e, up_row e]
    exact p.1 a ha
theorem TmF.cg {g g' : mM} (p : TmF g g') {b : Nat} (hb : b ≠ 130) {i v : Int} : TmF (upM g b i v) (upM g' b i v) := by
  refine ⟨fun a ha => ?_, fun j hj => by rw [up_ne (by omega), up_ne (by omega)]; exact p.2 j hj⟩
  by_cases e : a = b
  · subst e
    funext j
    rw [up_at, up_at, p.1 a ha]
  · rw [up_row e, up_row e]
    exact p.1 a ha
section
variable {xs : List Int} {d : Nat} {hT hM : mM} {tx : Nat → Int} {N : Nat} {gT gM : mM} {k : Tk} {f e : Nat} {c : Kc}
theorem p_perhaps (S : RdS hT hM tx N k f e gT gM) {t m most wo a i : Int} {b : Nat} (ht : 1 ≤ t) (hw : WdR t m) (ha : 1656 ≤ a ∧ a < 2346) (hb : b = 41 ∨ b = 42 ∨ b = 43) (hi : 0 ≤ i ∧ i < 7) (hwo : gT b i = wo) (hm : 0 ≤ wo ∧ wo ≤ most) : (∃ v gT' gM' k' f' e', C xs d 286 0 [mR 37, mI t, mR b, mI i, mI most] gT = some ([mI 1], gT') ∧ C xs d 114 0 [mR 130, mI m, mI a, mI 0, mI most, mI wo] gM = some ([mI 1], gM') ∧ RdS hT hM tx N k' f' e' gT' gM' ∧ f ≤ f' ∧ (0 ≤ v ∧ v ≤ most) ∧ TsF (upM gT b i v) gT' ∧ TmF (upM gM 131 a v) gM') ∨ (∃ gT' gM', C xs d 286 0 [mR 37, mI t, mR b, mI i, mI most] gT = some ([mI 0], gT') ∧ C xs d 114 0 [mR 130, mI m, mI a, mI 0, mI most, mI wo] gM = some ([mI 0], gM') ∧ Flt hT hM gT' gM') := by
  have R := S.wd
  unfold WdR at R hw
  have isT : C xs d 113 0 [mR 130, mI m] gM = if tWd k = t then cV (C xs d 98 0 [mR 130] gM) (fun h2 => some ([mI 1], h2)) else some ([mI 0], gM) := by
    rw [c_M_isThere]
    refine cI_of (S.wM) ?_
    by_cases z : tWd k = t
    · rw [if_pos z, if_pos (by omega)]
    · rw [if_neg z, if_neg (by omega)]
  rw [c_MR_readPerhaps xs d hb, S.w9, c_M_perhaps, isT]
  by_cases z : tWd k = t
  · rw [if_pos z, if_pos z]
    obtain ⟨z4, z0⟩ := wd_4 (k := k) (by omega)
    obtain ⟨g1, m1, k1, f1, e1, r1, r2, r3, r4, r5, r6⟩ := nxt (xs := xs) (d := d) S z4
    rw [r1, r2]
    rcases p_num (xs := xs) (d := d) r3 (a := a) (l := 0) (m := most) (i := i) (b := b) ha (by omega) with ⟨v, g2, m2, k2, f2, e2, s1, s2, s3, s4, s5, s6, s7, s8, s9⟩ | ⟨g2, m2, s1, s2, s3⟩
    · refine Or.inl ⟨v, g2, m2, k2, f2, e2, ?_, ?_, s6, by have := r4 z0; omega, s3, (r5.cg (by omega)).tr s8, (r6.cg (by omega)).tr s9⟩
      · refine cV_of rfl ?_
        refine cI_of (s1) ?_
        rw [if_neg (by decide)]
        refine cI_of (c_Tp_number xs d _) ?_
        rw [s2]
        refine if_y (by omega) ?_
        refine cV_of (s4) ?_
        rfl
      · refine cI_of rfl ?_
        rw [if_neg (by decide)]
        refine cI_of (s5) ?_
        refine if_y (by omega) ?_
        rfl
    · refine Or.inr ⟨g2, m2, ?_, ?_, s3⟩
      · refine cV_of rfl ?_
        refine cI_of (s1) ?_
        rw [if_pos rfl]
      · refine cI_of rfl ?_
        rw [if_neg (by decide)]
        refine cI_of (s2) ?_
        refine if_y (by omega) ?_
        rfl
  · rw [if_neg z, if_neg z]
    refine Or.inl ⟨wo, gT, upM gM 131 a wo, k, f, e, rfl, ?_, S.uM (by omega), Nat.le_refl _, hm, by rw [up_same hwo]; exact TsF.rf, TmF.rf⟩
    refine cI_of rfl ?_
    rw [if_pos rfl]
    refine if_y (by omega) ?_
    rfl
/-- who is named here, of so many -/
theorem p_who (S : RdS hT hM tx N k f e gT gM) {b B n : Nat} (hb : b = 12 ∨ b = 38) (hn : gT b 0 = (n : Int)) (h7 : n ≤ 7) (hB : B + n ≤ 42) (nm : NmR (gT (b + 7)) (fun p => gM 132 ((B : Int) + p)) (n : Int)) : (∃ p : Nat, p < n ∧ C xs d 309 0 [mR 9, mR b] gT = some ([mI (p : Int)], gT) ∧ tWd k = 0 ∧ C xs d 108 0 [mR 130, mI (B : Int), mI (n : Int)] gM = some ([mI (p : Int)], gM)) ∨ (C xs d 309 0 [mR 9, mR b] gT = some ([mI (-1)], flT k f 2 gT) ∧ tWd k ≠ 0) ∨ (C xs d 309 0 [mR 9, mR b] gT = some ([mI (-1)], flT k f 3 gT) ∧ tWd k = 0 ∧ C xs d 108 0 [mR 130, mI (B : Int), mI (n : Int)] gM = some ([mI (-1)], gM)) := by
  rw [c_Tp_whoIsNamed xs d (by omega), S.w9]
  by_cases z : tWd k = 0
  · rw [if_pos z, S.n10 z]
    have fM := m_findHere (xs := xs) (d := d) S.2.1 S.2.2.1 S.2.2.2.2.1 S.2.2.2.2.2.1 z hB
    have fT := t_named (xs := xs) (d := d) (g := gT) hb hn h7 (pk 32 0 k.2.2 0)
    rw [find_eq S.2.2.2.2.2.1 z nm] at fM
    rcases fdI_bd (f := gT (b + 7)) (x := pk 32 0 k.2.2 0) n 0 with q | ⟨q1, q2⟩
    · rw [q] at fM fT
      refine Or.inr (Or.inr ⟨?_, z, fM⟩)
      refine cI_of (fT) ?_
      rw [if_pos rfl]
      refine cI_of (S.oT 3) ?_
      rfl
    · obtain ⟨p, hp⟩ : ∃ p : Nat, fdI (gT (b + 7)) (pk 32 0 k.2.2 0) n 0 = (p : Int) := ⟨(fdI (gT (b + 7)) (pk 32 0 k.2.2 0) n 0).toNat, by omega⟩
      rw [hp] at fM fT
      refine Or.inl ⟨p, by omega, ?_, z, fM⟩
      refine cI_of (fT) ?_
      refine if_n (by omega) ?_
      rfl
  · rw [if_neg z]
    refine Or.inr (Or.inl ⟨?_, z⟩)
    refine cI_of (S.oT 2) ?_
    rfl
abbrev shM (g : mM) : mM := fun _ j => g 131 (1656 + j)
theorem shM_up {g : mM} {i v : Int} : shM (upM g 131 (1656 + i) v) 131 = upM (shM g) 131 i v 131 := by
  funext j
  show upM g 131 (1656 + i) v 131 (1656 + j) = _
  rw [up_at, up_at]
  by_cases z : j = i
  · rw [if_pos z, if_pos (by omega)]
  · rw [if_neg z, if_neg (by omega)]
/-- what both have read so far -/
def DrR (c : Kc) (gT gM : mM) : Prop := CoT 38 c gT ∧ CoM c (shM gM) ∧ WfC c ∧ c 1 0 = 0 ∧ NmR (gT 45) (fun p => gM 132 (28 + p)) (c 0 0) ∧ gM 131 1664 = -1
def TpR (r : Nat) (gT gM : mM) : Prop := r < 64 ∧ gT 37 2 = ((2 * r : Nat) : Int) ∧ gM 130 20 = (r : Int)
theorem DrR.fr {gT' gM' : mM} (D : DrR c gT gM) (p : TsF gT gT') (q : TmF gM gM') : DrR c gT' gM' := by
  obtain ⟨a1, a2, a3, a4, a5, a6⟩ := D
  refine ⟨a1.mv (fun a h1 h2 => p.1 a (by omega)), ?_, a3, a4, ?_, by rw [q.1 131 (by omega)]; exact a6⟩
  · have : shM gM' = shM gM := by unfold shM; rw [q.1 131 (by omega)]
    rw [this]
    exact a2
  · rw [p.1 45 (by omega), q.1 132 (by omega)]
    exact a5
theorem TpR.fr {gT' gM' : mM} {r : Nat} (D : TpR r gT gM) (p : TsF gT gT') (q : TmF gM gM') : TpR r gT' gM' := ⟨D.1, by rw [p.1 37 (by omega)]; exact D.2.1, by rw [q.2 20 (by omega)]; exact D.2.2⟩
/-- both are through with a part, or both found the same fault -/
def Out (hT hM : mM) (tx : Nat → Int) (N f : Nat) (oT oM : Option (List mv × mM)) : Prop := (∃ gT' gM' k' f' e' c' r', oT = some ([mI 1], gT') ∧ oM = some ([mI 1], gM') ∧ RdS hT hM tx N k' f' e' gT' gM' ∧ f < f' ∧ DrR c' gT' gM' ∧ TpR r' gT' gM') ∨ ∃ gT' gM', oT = some ([mI 0], gT') ∧ oM = some ([mI 0], gM') ∧ Flt hT hM gT' gM'
theorem told_bits : ∀ r, r < 64 → ∀ t, t < 6 → (fAnd ((2 * r : Nat) : Int) (fShl 1 ((t + 1 : Nat) : Int)) = 0 ↔ r.testBit t = false) ∧ fOr ((2 * r : Nat) : Int) (fShl 1 ((t + 1 : Nat) : Int)) = ((2 * (r ||| 2 ^ t) : Nat) : Int) ∧ fOr (r : Int) (fShl 1 ((t : Nat) : Int)) = ((r ||| 2 ^ t : Nat) : Int) ∧ r ||| 2 ^ t < 64 := by decide +kernel
theorem rule_lim : ∀ t, t < 6 → (nth (CT [] 2) (t + 1)).getD 0 = (if t + 1 = 3 then 1 else if t + 1 < 5 then 0 else 1) ∧ (nth (CT [] 3) (t + 1)).getD 0 = (if t + 1 = 1 then 16 else if t + 1 = 2 then 16 else if t + 1 = 3 then 99 else if t + 1 = 4 then 30 else if t + 1 = 5 then 20 else 9) := by decide
theorem ruC_wf (w : WfC c) {t : Nat} (ht : t < 6) {v : Int} (h1 : (nth (CT [] 2) (t + 1)).getD 0 ≤ v) (h2 : v ≤ (nth (CT [] 3) (t + 1)).getD 0) : WfC (setC c 2 ((t + 1 : Nat) : Int) v) := by
  obtain ⟨e1, e2⟩ := rule_lim t ht
  rw [e1] at h1
  rw [e2] at h2
  obtain ⟨w1, w2, w3, w4, w5, w6, w7, w8, w9⟩ := w
  have e : ∀ f i, f ≠ 2 → setC c 2 ((t + 1 : Nat) : Int) v f i = c f i := fun f i hf => if_neg (fun z => hf z.1)
  have e2 : ∀ i, setC c 2 ((t + 1 : Nat) : Int) v 2 i = if i = ((t + 1 : Nat) : Int) then v else c 2 i := fun i => by
    unfold setC
    by_cases z : i = ((t + 1 : Nat) : Int)
    · rw [if_pos ⟨rfl, z⟩, if_pos z]
    · rw [if_neg (fun y => z y.2), if_neg z]
  unfold WfC
  rw [e 0 0 (by omega), e 1 0 (by omega), e2, e2, e2, e2, e2, e2]
  refine ⟨w1, w2, ?_, ?_, ?_, ?_, ?_, ?_, fun i a b => ?_⟩
  · split at h1 <;> split at h2 <;> (try split at h1) <;> (try split at h2) <;> (try split at h2) <;> (try split at h2) <;> (try split at h2) <;> split <;> omega
  · split at h1 <;> split at h2 <;> (try split at h1) <;> (try split at h2) <;> (try split at h2) <;> (try split at h2) <;> (try split at h2) <;> split <;> omega
  · split at h1 <;> split at h2 <;> (try split at h1) <;> (try split at h2) <;> (try split at h2) <;> (try split at h2) <;> (try split at h2) <;> split <;> omega
  · split at h1 <;> split at h2 <;> (try split at h1) <;> (try split at h2) <;> (try split at h2) <;> (try split at h2) <;> (try split at h2) <;> split <;> omega
  · split at h1 <;> split at h2 <;> (try split at h1) <;> (try split at h2) <;> (try split at h2) <;> (try split at h2) <;> (try split at h2) <;> split <;> omega
  · split at h1 <;> split at h2 <;> (try split at h1) <;> (try split at h2) <;> (try split at h2) <;> (try split at h2) <;> (try split at h2) <;> split <;> omega
  · have := w9 i a b
    unfold WfP at this ⊢
    rw [e 3 i (by omega), e 4 i (by omega), e 5 i (by omega), e 6 i (by omega), e 7 i (by omega), e 0 0 (by omega)]
    exact this
theorem ruC_T {h : mM} (k : CoT 38 c h) {i v : Int} : CoT 38 (setC c 2 i v) (upM h 39 i v) := by
  have e : ∀ f j, f ≠ 2 → setC c 2 i v f j = c f j := fun f j hf => if_neg (fun z => hf z.1)
  unfold CoT
  rw [e 0 0 (by omega), e 1 0 (by omega)]
  refine ⟨by rw [up_ne (by omega)]; exact k.n, by rw [up_ne (by omega)]; exact k.g, fun j h1 h2 => ?_, fun j h1 h2 => ?_, fun j h1 h2 => ?_, fun j h1 h2 => ?_, fun j h1 h2 => ?_, fun j h1 h2 => ?_⟩
  · rw [show 38 + 1 = 39 from rfl, up_at]
    unfold setC
    by_cases z : j = i
    · rw [if_pos z, if_pos ⟨rfl, z⟩]
    · rw [if_neg z, if_neg (fun y => z y.2)]; exact k.r j h1 h2
  · rw [up_ne (by omega), e _ _ (by omega)]; exact k.p j h1 h2
  · rw [up_ne (by omega), e _ _ (by omega)]; exact k.m j h1 h2
  · rw [up_ne (by omega), e _ _ (by omega)]; exact k.w j h1 h2
  · rw [up_ne (by omega), e _ _ (by omega)]; exact k.l j h1 h2
  · rw [up_ne (by omega), e _ _ (by omega)]; exact k.q j h1 h2
theorem ruC_M {h : mM} (k : CoM c h) {i v : Int} (hi : 1 ≤ i ∧ i ≤ 6) : CoM (setC c 2 i v) (upM h 131 i v) := by
  have e : ∀ f j, f ≠ 2 → setC c 2 i v f j = c f j := fun f j hf => if_neg (fun z => hf z.1)
  unfold CoM
  rw [e 0 0 (by omega), e 1 0 (by omega)]
  refine ⟨by rw [up_at, if_neg (by omega)]; exact k.n, by rw [up_at, if_neg (by omega)]; exact k.g, fun j h1 h2 => ?_, fun j h1 h2 => ?_, fun j h1 h2 => ?_, fun j h1 h2 => ?_, fun j h1 h2 => ?_, fun j h1 h2 => ?_⟩
  · rw [up_at]
    unfold setC
    by_cases z : j = i
    · rw [if_pos z, if_pos ⟨rfl, z⟩]
    · rw [if_neg z, if_neg (fun y => z y.2)]; exact k.r j h1 h2
  · rw [up_at, if_neg (by omega), e _ _ (by omega)]; exact k.p j h1 h2
  · rw [up_at, if_neg (by omega), e _ _ (by omega)]; exact k.m j h1 h2
  · rw [up_at, if_neg (by omega), e _ _ (by omega)]; exact k.w j h1 h2
  · rw [up_at, if_neg (by omega), e _ _ (by omega)]; exact k.l j h1 h2
  · rw [up_at, if_neg (by omega), e _ _ (by omega)]; exact k.q j h1 h2
theorem p_rule (S : RdS hT hM tx N k f e gT gM) (D : DrR c gT gM) {r : Nat} (P : TpR r gT gM) {t : Nat} (ht : t < 6) (hk : tWd k = ((t + 1 : Nat) : Int)) : Out hT hM tx N f (C xs d 284 0 [mR 37, mI ((t + 1 : Nat) : Int)] gT) (C xs d 119 0 [mR 130] gM) := by
  have R := S.wd
  unfold WdR at R
  obtain ⟨z4, z0⟩ := wd_4 (k := k) (by omega)
  obtain ⟨p1, p2, p3⟩ := P
  obtain ⟨b1, b2, b3, b4⟩ := told_bits r p1 t ht
  obtain ⟨l1, l2⟩ := rule_lim t ht
  have em : mWd k = (t : Int) := by omega
  have eT : ((((t + 1 : Nat) : Int)).toNat) = t + 1 := by omega
  have isI := m_isInN (xs := xs) (d := d) (h := gM) (x := r) (q := t) (by omega) (by omega)
  have CT2 : CT xs 2 = CT [] 2 := rfl
  have CT3 : CT xs 3 = CT [] 3 := rfl
  rw [c_MR_readRule, p2, eT, CT2, CT3, c_M_mapPart, S.wM, em]
  by_cases q : r.testBit t = true
  · refine Or.inr ⟨_, _, ?_, ?_, S.fault (why := 5) (by omega)⟩
    · rw [if_neg (fun z => by rw [b1.mp z] at q; cases q)]
      refine cI_of (S.oT 5) ?_
      rfl
    · refine cI_of rfl ?_
      refine if_n (by omega) ?_
      refine if_n (by omega) ?_
      refine if_n (by omega) ?_
      rw [p3]
      refine cI_of (isI) ?_
      rw [if_neg (by rw [b2i_y q]; decide)]
      refine cI_of (S.oM 5) ?_
      rfl
  · have q' : r.testBit t = false := by rwa [Bool.not_eq_true] at q
    obtain ⟨g1, m1, k1, f1, e1, r1, r2, r3, r4, r5, r6⟩ := nxt (xs := xs) (d := d) ((S.uT (b := 37) (i := 2) (v := ((2 * (r ||| 2 ^ t) : Nat) : Int)) (by omega)).u130 (i := 20) (v := ((r ||| 2 ^ t : Nat) : Int)) (by omega)) z4
    have lm : C xs d 115 0 [mI (((t + 1 : Nat) : Int))] m1 = some ([mI ((nth (CT [] 2) (t + 1)).getD 0)], m1) ∧ C xs d 116 0 [mI (((t + 1 : Nat) : Int))] m1 = some ([mI ((nth (CT [] 3) (t + 1)).getD 0)], m1) := by
      rw [l1, l2, c_M_leastOf, c_M_mostOf]
      have : t = 0 ∨ t = 1 ∨ t = 2 ∨ t = 3 ∨ t = 4 ∨ t = 5 := by omega
      rcases this with rfl | rfl | rfl | rfl | rfl | rfl <;> exact ⟨rfl, rfl⟩
    have preM : ∀ o, cI (C xs d 105 0 [mR 130, mI (1656 + ((t + 1 : Nat) : Int)), mI ((nth (CT [] 2) (t + 1)).getD 0), mI ((nth (CT [] 3) (t + 1)).getD 0)] m1) (fun v4 h4 => (if v4 = (0 : Int) then some ([mI 0], h4) else cI (C xs d 103 0 [mR 130, mI 59] h4) (fun v5 h5 => (if v5 = (0 : Int) then some ([mI 0], h5) else some ([mI 1], h5))))) = o → cI (some ([mI (t : Int)], gM)) (fun v1 h1 => (if v1 < (0 : Int) then cI (C xs d 101 0 [mR 130, mI 2] h1) (fun v2 h2 => (if 0 ≤ v2 ∧ v2 ≤ 1 then some ([mI v2], h2) else none)) else (if (7 : Int) < v1 then cI (C xs d 101 0 [mR 130, mI 2] h1) (fun v5 h5 => (if 0 ≤ v5 ∧ v5 ≤ 1 then some ([mI v5], h5) else none)) else (if (5 : Int) < v1 then X xs d k_M_mapPart 26 [mR 130, mI v1] [] h1 else cI (C xs d 112 0 [mR 130, mI (h1 130 20), mI v1] h1) (fun v3 h3 => (if v3 = (0 : Int) then X xs d k_M_mapPart 26 [mR 130, mI v1] [] h3 else cI (C xs d 101 0 [mR 130, mI 5] h3) (fun v4 h4 => (if 0 ≤ v4 ∧ v4 ≤ 1 then some ([mI v4], h4) else none)))))))) = o := by
      intro o ho
      refine cI_of rfl ?_
      refine if_n (by omega) ?_
      refine if_n (by omega) ?_
      refine if_n (by omega) ?_
      rw [p3]
      refine cI_of (isI) ?_
      rw [if_pos (b2i_n q), e_M_mapPart_26]
      refine if_n (by omega) ?_
      refine if_n (by omega) ?_
      rw [p3, b3]
      refine cV_of (r2) ?_
      refine if_y (by omega) ?_
      refine if_y (by omega) ?_
      refine if_y (by omega) ?_
      rw [show (t : Int) + 1 = ((t + 1 : Nat) : Int) by omega]
      refine cI_of (lm.1) ?_
      refine if_y (by omega) ?_
      refine cI_of (lm.2) ?_
      rw [show 1656 + (t : Int) + 1 = 1656 + ((t + 1 : Nat) : Int) by omega]
      exact ho
    have preT : ∀ o, cI (C xs d 308 0 [mR 9, mI ((nth (CT [] 2) (t + 1)).getD 0), mI ((nth (CT [] 3) (t + 1)).getD 0)] g1) (fun v2 h2 => (if v2 = (0 : Int) then some ([mI 0], h2) else cI (C xs d 304 0 [mR 9] h2) (fun v3 h3 => (if inA ((t + 1 : Nat) : Int) 7 then cV (C xs d 310 0 [mR 9] (upM h3 39 ((t + 1 : Nat) : Int) v3)) (fun h4 => cI (C xs d 307 0 [mR 9] h4) (fun v5 h5 => (if 0 ≤ v5 ∧ v5 ≤ 1 then some ([mI v5], h5) else none))) else none)))) = o → (if fAnd ((2 * r : Nat) : Int) (fShl 1 ((t + 1 : Nat) : Int)) = (0 : Int) then cV (C xs d 310 0 [mR 9] (upM gT 37 2 (fOr ((2 * r : Nat) : Int) (fShl 1 ((t + 1 : Nat) : Int))))) (fun h1 => (if inA ((t + 1 : Nat) : Int) 7 then (if inA ((t + 1 : Nat) : Int) 7 then cI (C xs d 308 0 [mR 9, mI ((nth (CT [] 2) (t + 1)).getD 0), mI ((nth (CT [] 3) (t + 1)).getD 0)] h1) (fun v2 h2 => (if v2 = (0 : Int) then some ([mI 0], h2) else cI (C xs d 304 0 [mR 9] h2) (fun v3 h3 => (if inA ((t + 1 : Nat) : Int) 7 then cV (C xs d 310 0 [mR 9] (upM h3 39 ((t + 1 : Nat) : Int) v3)) (fun h4 => cI (C xs d 307 0 [mR 9] h4) (fun v5 h5 => (if 0 ≤ v5 ∧ v5 ≤ 1 then some ([mI v5], h5) else none))) else none)))) else none) else none)) else cI (C xs d 305 0 [mR 9, mI 5] gT) (fun v6 h6 => (if 0 ≤ v6 ∧ v6 ≤ 1 then some ([mI v6], h6) else none))) = o := by
      intro o ho
      rw [if_pos (b1.mpr q'), b2]
      refine cV_of (r1) ?_
      refine if_y (by omega) ?_
      refine if_y (by omega) ?_
      exact ho
    rcases p_num (xs := xs) (d := d) r3 (a := 1656 + ((t + 1 : Nat) : Int)) (l := (nth (CT [] 2) (t + 1)).getD 0) (m := (nth (CT [] 3) (t + 1)).getD 0) (i := ((t + 1 : Nat) : Int)) (b := 39) (by omega) (by omega) with ⟨v, g2, m2, k2, f2, e2, s1, s2, s3, s4, s5, s6, s7, s8, s9⟩ | ⟨g2, m2, s1, s2, s3⟩
    · have D1 : DrR c g1 m1 := by
        obtain ⟨a1, a2, a3, a4, a5, a6⟩ := D
        refine DrR.fr (gT := upM gT 37 2 ((2 * (r ||| 2 ^ t) : Nat) : Int)) (gM := upM gM 130 20 ((r ||| 2 ^ t : Nat) : Int)) ⟨a1.mv (fun a h1 h2 => up_row (by omega)), ?_, a3, a4, ?_, by rw [up_ne (by omega)]; exact a6⟩ r5 r6
        · have : shM (upM gM 130 20 ((r ||| 2 ^ t : Nat) : Int)) = shM gM := by unfold shM; rw [up_row (show (131 : Nat) ≠ 130 by omega)]
          rw [this]; exact a2
        · rw [up_row (show (45 : Nat) ≠ 37 by omega), up_row (show (132 : Nat) ≠ 130 by omega)]; exact a5
      have D2 : DrR (setC c 2 ((t + 1 : Nat) : Int) v) g2 m2 := by
        obtain ⟨a1, a2, a3, a4, a5, a6⟩ := D1
        have e0 : ∀ f i, f ≠ 2 → setC c 2 ((t + 1 : Nat) : Int) v f i = c f i := fun f i hf => if_neg (fun z => hf z.1)
        refine DrR.fr (gT := upM g1 39 ((t + 1 : Nat) : Int) v) (gM := upM m1 131 (1656 + ((t + 1 : Nat) : Int)) v) ⟨ruC_T a1, (ruC_M a2 (by omega)).mv shM_up, ruC_wf a3 ht s3.1 s3.2, by rw [e0 1 0 (by omega)]; exact a4, ?_, by rw [up_at, if_neg (by omega)]; exact a6⟩ s8 s9
        rw [up_row (show (45 : Nat) ≠ 39 by omega), up_row (show (132 : Nat) ≠ 131 by omega), e0 0 0 (by omega)]
        exact a5
      have P1 : TpR (r ||| 2 ^ t) g1 m1 := TpR.fr (gT := upM gT 37 2 ((2 * (r ||| 2 ^ t) : Nat) : Int)) (gM := upM gM 130 20 ((r ||| 2 ^ t : Nat) : Int)) ⟨b4, up_eq, up_eq⟩ r5 r6
      have P2 : TpR (r ||| 2 ^ t) g2 m2 := TpR.fr (gT := upM g1 39 ((t + 1 : Nat) : Int) v) (gM := upM m1 131 (1656 + ((t + 1 : Nat) : Int)) v) ⟨b4, by rw [up_ne (by omega)]; exact P1.2.1, by rw [up_ne (by omega)]; exact P1.2.2⟩ s8 s9
      have ff := r4 z0
      rcases p_semi (xs := xs) (d := d) s6 with ⟨g3, m3, k3, f3, e3, u1, u2, u3, u4, u5, u6⟩ | ⟨g3, m3, u1, u2, u3⟩
      · refine Or.inl ⟨g3, m3, k3, f3, e3, _, _, preT _ ?_, preM _ ?_, u3, by omega, D2.fr u5 u6, P2.fr u5 u6⟩
        · refine cI_of (s1) ?_
          rw [if_neg (by decide)]
          refine cI_of (c_Tp_number xs d _) ?_
          rw [s2]
          refine if_y (by omega) ?_
          refine cV_of (s4) ?_
          refine cI_of (u1) ?_
          rfl
        · refine cI_of (s5) ?_
          rw [if_neg (by decide)]
          refine cI_of (u2) ?_
          rfl
      · refine Or.inr ⟨g3, m3, preT _ ?_, preM _ ?_, u3⟩
        · refine cI_of (s1) ?_
          rw [if_neg (by decide)]
          refine cI_of (c_Tp_number xs d _) ?_
          rw [s2]
          refine if_y (by omega) ?_
          refine cV_of (s4) ?_
          refine cI_of (u1) ?_
          rfl
        · refine cI_of (s5) ?_
          rw [if_neg (by decide)]
          refine cI_of (u2) ?_
          rfl
    · refine Or.inr ⟨g2, m2, preT _ ?_, preM _ ?_, s3⟩
      · refine cI_of (s1) ?_
        rfl
      · refine cI_of (s2) ?_
        rfl
end
