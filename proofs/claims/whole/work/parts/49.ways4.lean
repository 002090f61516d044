/-! EQUIV 19: who warms whom: the walk of the reference; the four calls -/
theorem catN_mono (f : Nat → List (Nat → Nat)) {i j : Nat} (h : i ≤ j) : (catN f i).length ≤ (catN f j).length := by
  obtain ⟨r, rfl⟩ := Nat.exists_eq_add_of_le h
  induction r with
  | zero => exact Nat.le_refl _
  | succ r ih =>
    have := ih (by omega)
    rw [← Nat.add_assoc, catN, List.length_append]
    omega
/-- what one has found, when so many of his are through -/
def ptL (n : Nat) (al : Nat → Nat) (w : Nat → Nat) (k S r o : Nat) : List (Nat → Nat) := if okW al w k then catN (fun q => if opW al k S q then wyL n al r (k + 1) (upd1 w k q) (S ||| 2 ^ q) else []) o else []
section
variable {n : Nat} {al : Nat → Nat} {w : Nat → Nat}
theorem ptL_mono {k S r i j : Nat} (h : i ≤ j) : (ptL n al w k S r i).length ≤ (ptL n al w k S r j).length := by
  unfold ptL
  split
  · exact catN_mono _ h
  · exact Nat.le_refl _
theorem okW_s {k o : Nat} : okW al (upd1 w k o) (k + 1) ↔ okW al w k ∧ (al k).testBit o = true := by
  constructor
  · intro H
    refine ⟨fun p hp => ?_, ?_⟩
    · have := H p (by omega)
      rwa [upd1, if_neg (by omega)] at this
    · have := H k (by omega)
      rwa [upd1, if_pos rfl] at this
  · rintro ⟨H, z⟩ p hp
    by_cases e : p = k
    · subst e
      rw [upd1, if_pos rfl]
      exact z
    · rw [upd1, if_neg e]
      exact H p (by omega)
theorem ptL_y {k S r o : Nat} (h : S.testBit o = false) : ptL n al w k S r (o + 1) = ptL n al w k S r o ++ (if okW al (upd1 w k o) (k + 1) then wyL n al r (k + 1) (upd1 w k o) (S ||| 2 ^ o) else []) := by
  unfold ptL
  by_cases z : okW al w k
  · rw [if_pos z, if_pos z, catN]
    by_cases y : (al k).testBit o = true
    · rw [if_pos ⟨y, h⟩, if_pos (okW_s.mpr ⟨z, y⟩)]
    · rw [if_neg (fun t => y t.1), if_neg (fun t => y (okW_s.mp t).2)]
  · rw [if_neg z, if_neg z, if_neg (fun t => z (okW_s.mp t).1)]
    rfl
theorem ptL_n {k S r o : Nat} (h : ¬ opW al k S o) : ptL n al w k S r (o + 1) = ptL n al w k S r o := by
  unfold ptL
  split
  · rw [catN, if_neg h, List.append_nil]
  · rfl
end
section
variable {xs : List Int} {d : Nat} {h : mM} {c : Kc} {n : Nat}
theorem Acc.up {L : List (Nat → Nat)} {g : mM} (A : Acc n L g) (i v : Int) : Acc n L (upM g 143 i v) := ⟨by rw [up_ne (by omega)]; exact A.1, fun p o hp ho => by rw [up_ne (by omega)]; exact A.2.1 p o hp ho, fun w0 e p hp => by rw [up_ne (by omega)]; exact A.2.2 w0 e p hp⟩
theorem Sn.f {g g' : mM} {x : Int} {D W : Nat → Nat} {m : Nat} (s : Sn g x D W m) (f : WyF g g') : Sn g' x D W m := fun i hi => by
  rw [f.1 135 (by omega) (by omega) (by omega) (by omega)]
  exact s i hi
theorem m_node (hn : n ≤ 7) {x : Int} (hx : 0 ≤ x ∧ x < 4) {m : Nat} (hm : m ≤ 10) {D W : Nat → Nat} (hD : ∀ i, i < m → D i < 128) (hW : ∀ i, i < m → W i < 2 ^ n) : ∀ (r k : Nat) (w : Nat → Nat) (g : mM) (L : List (Nat → Nat)), k + (r + 1) = n → (∀ j : Nat, j < k → g 143 (j : Int) = ((w j : Nat) : Int)) → (∀ j, j < k → w j < n) → injN w k → (∀ j, j < k → w j ≠ j) → g 143 (k : Int) = -1 → Acc n L g → Sn g x D W m → g 131 0 = (n : Int) → L.length + (ptL n (alW n D W m) w k (usN w k) r n).length ≤ 823543 → ∃ g', X xs d k_M_laysWays 40 [mR 130, mI x, mI (m : Int), mI (n : Int), mI (k : Int)] [] g = X xs d k_M_laysWays 40 [mR 130, mI x, mI (m : Int), mI (n : Int), mI ((k : Int) - 1)] [] g' ∧ Acc n (L ++ ptL n (alW n D W m) w k (usN w k) r n) g' ∧ (∀ j : Nat, j < k → g' 143 (j : Int) = ((w j : Nat) : Int)) ∧ WyF g g' := by
  have p7 := pow_le7 hn
  generalize hal : alW n D W m = al
  have own : ∀ k, k < 7 → (al k).testBit k = false := fun k hk => by
    rw [← Bool.not_eq_true, ← hal, alW_bit m (fun j hj => by have := hW j hj; omega) k k hk hk]
    exact fun z => z.2.1 rfl
  intro r
  induction r with
  | zero =>
    intro k w g L hk hw hv hi ho gk A sn n0 lim
    have key : ∀ (s o : Nat) (g1 : mM), o + s = n → g1 143 (k : Int) = (o : Int) - 1 → Acc n (L ++ ptL n al w k (usN w k) 0 o) g1 → (∀ j : Nat, j < k → g1 143 (j : Int) = ((w j : Nat) : Int)) → WyF g g1 → ∃ g', X xs d k_M_laysWays 40 [mR 130, mI x, mI (m : Int), mI (n : Int), mI (k : Int)] [] g1 = X xs d k_M_laysWays 40 [mR 130, mI x, mI (m : Int), mI (n : Int), mI ((k : Int) - 1)] [] g' ∧ Acc n (L ++ ptL n al w k (usN w k) 0 n) g' ∧ (∀ j : Nat, j < k → g' 143 (j : Int) = ((w j : Nat) : Int)) ∧ WyF g g' := by
      intro s
      induction s with
      | zero =>
        intro o g1 hs g1k A1 w1 f1
        obtain rfl : o = n := by omega
        refine ⟨upM g1 143 (k : Int) ((o : Int) - 1 + 1), ?_, A1.up _ _, fun j hj => by rw [up_at, if_neg (by omega)]; exact w1 j hj, f1.up (by omega) _ _⟩
        rw [e_M_laysWays_40, g1k, up_eq]
        refine if_n (by omega) ?_
        refine if_y (by omega) ?_
        refine if_y (by omega) ?_
        refine if_y (by omega) ?_
        refine if_y (by omega) ?_
        refine if_y (by omega) ?_
        refine if_y (by omega) ?_
        rfl
      | succ s ih =>
        intro o g1 hs g1k A1 w1 f1
        have g2k : upM g1 143 (k : Int) ((o : Int) - 1 + 1) 143 (k : Int) = (o : Int) := by rw [up_eq]; omega
        generalize hg2 : upM g1 143 (k : Int) ((o : Int) - 1 + 1) = g2 at g2k
        have A2 : Acc n (L ++ ptL n al w k (usN w k) 0 o) g2 := by rw [← hg2]; exact A1.up _ _
        have w2 : ∀ j : Nat, j < k → g2 143 (j : Int) = ((w j : Nat) : Int) := fun j hj => by rw [← hg2, up_at, if_neg (by omega)]; exact w1 j hj
        have f2 : WyF g g2 := by rw [← hg2]; exact f1.up (by omega) _ _
        have nx := ih (o + 1)
        by_cases z : k ≠ o ∧ (usN w k).testBit o = false
        · have ps := ptL_y (n := n) (al := al) (w := w) (k := k) (r := 0) z.2
          rw [wyL] at ps
          have wv : ∀ j, j < n → upd1 w k o j < n := fun j hj => by
            unfold upd1
            split
            · omega
            · exact hv j (by omega)
          have wi : injN (upd1 w k o) n := fun i j a b e => by
            unfold upd1 at e
            by_cases e1 : i = k <;> by_cases e2 : j = k
            · omega
            · rw [if_pos e1, if_neg e2] at e
              have := (usN_bit (w := w) k o).mpr ⟨j, by omega, e.symm⟩
              rw [z.2] at this
              cases this
            · rw [if_neg e1, if_pos e2] at e
              have := (usN_bit (w := w) k o).mpr ⟨i, by omega, e⟩
              rw [z.2] at this
              cases this
            · rw [if_neg e1, if_neg e2] at e
              exact hi i j (by omega) (by omega) e
          have wo : ∀ j, j < n → upd1 w k o j ≠ j := fun j hj => by
            unfold upd1
            split
            · omega
            · exact ho j (by omega)
          have ww : ∀ j : Nat, j < n → g2 143 (j : Int) = ((upd1 w k o j : Nat) : Int) := fun j hj => by
            unfold upd1
            by_cases e : j = k
            · subst e; rw [if_pos rfl]; exact g2k
            · rw [if_neg e]; exact w2 j (by omega)
          have n2 : g2 131 0 = (n : Int) := by rw [f2.1 131 (by omega) (by omega) (by omega) (by omega)]; exact n0
          have iff := way_iff hn wv wi wo (D := D) hW
          rw [hal, show n = k + 1 by omega] at iff
          have mono := ptL_mono (n := n) (al := al) (w := w) (k := k) (S := usN w k) (r := 0) (show o + 1 ≤ n by omega)
          by_cases y : okW al (upd1 w k o) (k + 1)
          · rw [if_pos y] at ps
            rw [ps, List.length_append, List.length_singleton] at mono
            obtain ⟨g3, r1, r2, r3, r4⟩ := m_counts (xs := xs) (d := d) hn n2 A2 (by rw [List.length_append]; omega) ww wv
            rw [List.append_assoc, ← ps] at r2
            obtain ⟨g', q1, q2⟩ := nx g3 (by omega) (by rw [r4, g2k]; omega) r2 (fun j hj => by rw [r4]; exact w2 j hj) (f2.tr r3)
            refine ⟨g', ?_, q2⟩
            rw [e_M_laysWays_40, g1k, hg2, g2k]
            refine if_n (by omega) ?_
            refine if_y (by omega) ?_
            refine if_y (by omega) ?_
            refine if_y (by omega) ?_
            refine if_y (by omega) ?_
            refine if_n (by omega) ?_
            refine if_y (by omega) ?_
            refine cI_of (m_mayHave (by omega) (by omega) w2) ?_
            refine if_n ((by rw [b2i_y z]; decide)) ?_
            refine if_y (by omega) ?_
            refine if_y (by omega) ?_
            refine cI_of (m_isWay hn n2 hx hm (sn.f f2) hD ww wv) ?_
            refine if_n ((by rw [show n = k + 1 by omega, b2i_y (iff.mpr y)]; decide)) ?_
            refine cV_of (r1) ?_
            exact q1
          · rw [if_neg y, List.append_nil] at ps
            obtain ⟨g', q1, q2⟩ := nx g2 (by omega) (by rw [g2k]; omega) (by rw [ps]; exact A2) w2 f2
            refine ⟨g', ?_, q2⟩
            rw [e_M_laysWays_40, g1k, hg2, g2k]
            refine if_n (by omega) ?_
            refine if_y (by omega) ?_
            refine if_y (by omega) ?_
            refine if_y (by omega) ?_
            refine if_y (by omega) ?_
            refine if_n (by omega) ?_
            refine if_y (by omega) ?_
            refine cI_of (m_mayHave (by omega) (by omega) w2) ?_
            refine if_n ((by rw [b2i_y z]; decide)) ?_
            refine if_y (by omega) ?_
            refine if_y (by omega) ?_
            refine cI_of (m_isWay hn n2 hx hm (sn.f f2) hD ww wv) ?_
            refine if_y ((by rw [show n = k + 1 by omega]; exact b2i_n (fun t => y (iff.mp t)))) ?_
            exact q1
        · have no : ¬ opW al k (usN w k) o := by
            intro t
            refine z ⟨fun e => ?_, t.2⟩
            subst e
            have := own k (by omega)
            rw [t.1] at this
            cases this
          have ps := ptL_n (n := n) (w := w) (r := 0) no
          obtain ⟨g', q1, q2⟩ := nx g2 (by omega) (by rw [g2k]; omega) (by rw [ps]; exact A2) w2 f2
          refine ⟨g', ?_, q2⟩
          rw [e_M_laysWays_40, g1k, hg2, g2k]
          refine if_n (by omega) ?_
          refine if_y (by omega) ?_
          refine if_y (by omega) ?_
          refine if_y (by omega) ?_
          refine if_y (by omega) ?_
          refine if_n (by omega) ?_
          refine if_y (by omega) ?_
          refine cI_of (m_mayHave (by omega) (by omega) w2) ?_
          refine if_y (b2i_n z) ?_
          exact q1
    have p0 : ptL n al w k (usN w k) 0 0 = [] := by unfold ptL; split <;> rfl
    exact key n 0 g (by omega) (by omega) (by rw [p0, List.append_nil]; exact A) hw WyF.rf
  | succ r IH =>
    intro k w g L hk hw hv hi ho gk A sn n0 lim
    have key : ∀ (s o : Nat) (g1 : mM), o + s = n → g1 143 (k : Int) = (o : Int) - 1 → Acc n (L ++ ptL n al w k (usN w k) (r + 1) o) g1 → (∀ j : Nat, j < k → g1 143 (j : Int) = ((w j : Nat) : Int)) → WyF g g1 → ∃ g', X xs d k_M_laysWays 40 [mR 130, mI x, mI (m : Int), mI (n : Int), mI (k : Int)] [] g1 = X xs d k_M_laysWays 40 [mR 130, mI x, mI (m : Int), mI (n : Int), mI ((k : Int) - 1)] [] g' ∧ Acc n (L ++ ptL n al w k (usN w k) (r + 1) n) g' ∧ (∀ j : Nat, j < k → g' 143 (j : Int) = ((w j : Nat) : Int)) ∧ WyF g g' := by
      intro s
      induction s with
      | zero =>
        intro o g1 hs g1k A1 w1 f1
        obtain rfl : o = n := by omega
        refine ⟨upM g1 143 (k : Int) ((o : Int) - 1 + 1), ?_, A1.up _ _, fun j hj => by rw [up_at, if_neg (by omega)]; exact w1 j hj, f1.up (by omega) _ _⟩
        rw [e_M_laysWays_40, g1k, up_eq]
        refine if_n (by omega) ?_
        refine if_y (by omega) ?_
        refine if_y (by omega) ?_
        refine if_y (by omega) ?_
        refine if_y (by omega) ?_
        refine if_y (by omega) ?_
        refine if_y (by omega) ?_
        rfl
      | succ s ih =>
        intro o g1 hs g1k A1 w1 f1
        have g2k : upM g1 143 (k : Int) ((o : Int) - 1 + 1) 143 (k : Int) = (o : Int) := by rw [up_eq]; omega
        generalize hg2 : upM g1 143 (k : Int) ((o : Int) - 1 + 1) = g2 at g2k
        have A2 : Acc n (L ++ ptL n al w k (usN w k) (r + 1) o) g2 := by rw [← hg2]; exact A1.up _ _
        have w2 : ∀ j : Nat, j < k → g2 143 (j : Int) = ((w j : Nat) : Int) := fun j hj => by rw [← hg2, up_at, if_neg (by omega)]; exact w1 j hj
        have f2 : WyF g g2 := by rw [← hg2]; exact f1.up (by omega) _ _
        have nx := ih (o + 1)
        by_cases z : k ≠ o ∧ (usN w k).testBit o = false
        · have ps := ptL_y (n := n) (al := al) (w := w) (k := k) (r := r + 1) z.2
          have us : usN (upd1 w k o) (k + 1) = usN w k ||| 2 ^ o := by
            rw [usN, usN_congr (v := upd1 w k o) (w := w) (fun j hj => if_neg (by omega)), upd1, if_pos rfl]
          have wv : ∀ j, j < k + 1 → upd1 w k o j < n := fun j hj => by
            unfold upd1
            split
            · omega
            · exact hv j (by omega)
          have wi : injN (upd1 w k o) (k + 1) := fun i j a b e => by
            unfold upd1 at e
            by_cases e1 : i = k <;> by_cases e2 : j = k
            · omega
            · rw [if_pos e1, if_neg e2] at e
              have := (usN_bit (w := w) k o).mpr ⟨j, by omega, e.symm⟩
              rw [z.2] at this
              cases this
            · rw [if_neg e1, if_pos e2] at e
              have := (usN_bit (w := w) k o).mpr ⟨i, by omega, e⟩
              rw [z.2] at this
              cases this
            · rw [if_neg e1, if_neg e2] at e
              exact hi i j (by omega) (by omega) e
          have wo : ∀ j, j < k + 1 → upd1 w k o j ≠ j := fun j hj => by
            unfold upd1
            split
            · omega
            · exact ho j (by omega)
          have ww : ∀ j : Nat, j < k + 1 → upM g2 143 ((k + 1 : Nat) : Int) (-1) 143 (j : Int) = ((upd1 w k o j : Nat) : Int) := fun j hj => by
            rw [up_at, if_neg (by omega)]
            unfold upd1
            by_cases e : j = k
            · subst e; rw [if_pos rfl]; exact g2k
            · rw [if_neg e]; exact w2 j (by omega)
          have n2 : g2 131 0 = (n : Int) := by rw [f2.1 131 (by omega) (by omega) (by omega) (by omega)]; exact n0
          have mono := ptL_mono (n := n) (al := al) (w := w) (k := k) (S := usN w k) (r := r + 1) (show o + 1 ≤ n by omega)
          have ce : ptL n al (upd1 w k o) (k + 1) (usN (upd1 w k o) (k + 1)) r n = (if okW al (upd1 w k o) (k + 1) then wyL n al (r + 1) (k + 1) (upd1 w k o) (usN w k ||| 2 ^ o) else []) := by rw [us]; rfl
          rw [← ce] at ps
          rw [ps, List.length_append] at mono
          obtain ⟨g3, r1, r2, r3, r4⟩ := IH (k + 1) (upd1 w k o) (upM g2 143 ((k + 1 : Nat) : Int) (-1)) (L ++ ptL n al w k (usN w k) (r + 1) o) (by omega) ww wv wi wo up_eq (A2.up _ _) ((sn.f f2).f (WyF.rf.up (by omega) _ _)) (by rw [up_ne (by omega)]; exact n2) (by rw [List.length_append]; omega)
          rw [List.append_assoc, ← ps] at r2
          obtain ⟨g', q1, q2⟩ := nx g3 (by omega) (by rw [r3 k (by omega), upd1, if_pos rfl]; omega) r2 (fun j hj => by rw [r3 j (by omega), upd1, if_neg (by omega)]) (f2.tr ((WyF.rf.up (by omega) _ _).tr r4))
          refine ⟨g', ?_, q2⟩
          rw [e_M_laysWays_40, g1k, hg2, g2k]
          refine if_n (by omega) ?_
          refine if_y (by omega) ?_
          refine if_y (by omega) ?_
          refine if_y (by omega) ?_
          refine if_y (by omega) ?_
          refine if_n (by omega) ?_
          refine if_y (by omega) ?_
          refine cI_of (m_mayHave (by omega) (by omega) w2) ?_
          refine if_n ((by rw [b2i_y z]; decide)) ?_
          refine if_y (by omega) ?_
          refine if_n (by omega) ?_
          refine if_y (by omega) ?_
          refine if_y (by omega) ?_
          refine r1.trans ?_
          rw [show ((k + 1 : Nat) : Int) - 1 = (k : Int) by omega]
          exact q1
        · have no : ¬ opW al k (usN w k) o := by
            intro t
            refine z ⟨fun e => ?_, t.2⟩
            subst e
            have := own k (by omega)
            rw [t.1] at this
            cases this
          have ps := ptL_n (n := n) (w := w) (r := r + 1) no
          obtain ⟨g', q1, q2⟩ := nx g2 (by omega) (by rw [g2k]; omega) (by rw [ps]; exact A2) w2 f2
          refine ⟨g', ?_, q2⟩
          rw [e_M_laysWays_40, g1k, hg2, g2k]
          refine if_n (by omega) ?_
          refine if_y (by omega) ?_
          refine if_y (by omega) ?_
          refine if_y (by omega) ?_
          refine if_y (by omega) ?_
          refine if_n (by omega) ?_
          refine if_y (by omega) ?_
          refine cI_of (m_mayHave (by omega) (by omega) w2) ?_
          refine if_y (b2i_n z) ?_
          exact q1
    have p0 : ptL n al w k (usN w k) (r + 1) 0 = [] := by unfold ptL; split <;> rfl
    exact key n 0 g (by omega) (by omega) (by rw [p0, List.append_nil]; exact A) hw WyF.rf
/-- all the ways there are -/
abbrev allW (n : Nat) (al : Nat → Nat) : List (Nat → Nat) := wyL n al n 0 (fun _ => 0) 0
theorem m_laysWays (hn : n ≤ 7) {g : mM} (n0 : g 131 0 = (n : Int)) {x : Int} (hx : 0 ≤ x ∧ x < 4) {m : Nat} (hm : m ≤ 10) {D W : Nat → Nat} (hD : ∀ i, i < m → D i < 128) (hW : ∀ i, i < m → W i < 2 ^ n) (sn : Sn g x D W m) : ∃ g', C xs d 188 0 [mR 130, mI x, mI (m : Int)] g = some ([], g') ∧ Acc n (allW n (alW n D W m)) g' ∧ WyF g g' := by
  rw [c_M_laysWays, n0]
  have key : ∀ (r i : Nat) (k : mM), i + r = 49 → (∀ j : Nat, j < i → k 145 (j : Int) = 0) → k 130 34 = 0 → WyF g k → ∃ g', X xs d k_M_laysWays 10 [mR 130, mI x, mI (m : Int), mI (n : Int), mI (i : Int)] [] k = some ([], g') ∧ Acc n (allW n (alW n D W m)) g' ∧ WyF g g' := by
    intro r
    induction r with
    | zero =>
      intro i k hi z0 k34 kf
      obtain rfl : i = 49 := by omega
      have nk : k 131 0 = (n : Int) := by rw [kf.1 131 (by omega) (by omega) (by omega) (by omega)]; exact n0
      rw [e_M_laysWays_10]
      by_cases hz : n = 0
      · subst hz
        refine ⟨upM k 130 34 1, ?_, ⟨by rw [up_eq]; rfl, fun p o hp ho => by omega, fun w0 e p hp => by omega⟩, kf.u34 1⟩
        refine if_n (by omega) ?_
        refine if_y (by omega) ?_
        refine cI_of (m_isWay hn nk hx hm (sn.f kf) hD (w := fun _ => 0) (fun j hj => by omega) (fun j hj => by omega)) ?_
        have : ∀ i, i < m → orW (D i) (fun _ => 0) 0 = W i := fun i hi => by
          have := hW i hi
          rw [orW]
          omega
        refine if_n ((by rw [b2i_y this]; decide)) ?_
        rfl
      · have aE : allW n (alW n D W m) = ptL n (alW n D W m) (fun _ => 0) 0 (usN (fun _ => 0) 0) (n - 1) n := by
          unfold ptL allW
          conv => lhs; rw [show n = (n - 1) + 1 by omega]
          rw [if_pos (fun p hp => by omega), show n - 1 + 1 = n by omega]
          conv => lhs; rw [show wyL n (alW n D W m) n = wyL n (alW n D W m) ((n - 1) + 1) by rw [show n - 1 + 1 = n by omega]]
          rfl
        have lb : (allW n (alW n D W m)).length ≤ 823543 := by
          have a := wyL_len (n := n) (al := alW n D W m) n 0 (fun _ => 0) 0
          have b := nB_top (n := n) (al := alW n D W m) hn n 0 0 hn
          unfold allW
          omega
        rw [aE] at lb
        obtain ⟨g', r1, r2, r3, r4⟩ := m_node (xs := xs) (d := d) hn hx hm hD hW (n - 1) 0 (fun _ => 0) (upM k 143 0 (-1)) [] (by omega) (fun j hj => by omega) (fun j hj => by omega) (fun i j a b => by omega) (fun j hj => by omega) up_eq ⟨by rw [up_ne (by omega)]; exact k34, fun p o hp ho => by rw [up_ne (by omega), z0 (7 * p + o) (by omega)]; rfl, fun w0 e => by cases e⟩ ((sn.f kf).f (WyF.rf.up (by omega) _ _)) (by rw [up_ne (by omega)]; exact nk) (by rw [List.length_nil]; omega)
        refine ⟨g', ?_, by rw [aE]; exact r2, kf.tr ((WyF.rf.up (by omega) _ _).tr r4)⟩
        refine if_n (by omega) ?_
        refine if_n (by omega) ?_
        refine r1.trans ?_
        rw [e_M_laysWays_40]
        refine if_y (by omega) ?_
        rfl
    | succ r ih =>
      intro i k hi z0 k34 kf
      obtain ⟨g', r1, r2⟩ := ih (i + 1) (upM k 145 (i : Int) 0) (by omega) (fun j hj => by
        rw [up_at]
        by_cases e : j = i
        · subst e; rw [if_pos rfl]
        · rw [if_neg (by omega)]; exact z0 j (by omega)) (by rw [up_ne (by omega)]; exact k34) (kf.up (by omega) _ _)
      refine ⟨g', ?_, r2⟩
      rw [e_M_laysWays_10]
      refine if_y (by omega) ?_
      refine if_y (by omega) ?_
      refine if_y (by omega) ?_
      exact r1
  exact key 49 0 (upM g 130 34 0) (by omega) (fun j hj => by omega) up_eq (WyF.rf.u34 0)
end
