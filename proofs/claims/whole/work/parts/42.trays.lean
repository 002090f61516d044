/-! EQUIV 12: trays, the tape, fractions -/
def keptN : List Nat := [11, 12, 13, 14, 15, 16, 17, 18, 19, 30, 31, 32, 33, 34, 35, 36, 56, 59, 60, 61, 62, 63, 64, 65, 66, 68, 69, 70, 71, 72, 73, 74, 75, 76, 77, 78, 79, 80, 81, 82, 84, 85, 86, 87, 88, 89, 90, 91, 92, 93, 94, 95, 96, 97, 98, 100, 101, 102, 103, 104, 105, 106, 107, 132, 150, 152]
theorem elem_step {L : List Nat} {b a : Nat} (n : Nat) (hL : ∀ i, i < n → L.elem (b + i) = true) (h1 : b ≤ a) (h2 : a < b + n) : L.elem a = true := by
  have := hL (a - b) (by omega)
  rw [show b + (a - b) = a by omega] at this
  exact this
theorem Rel.loc {h h' : mM} (R : Rel h) (e : ∀ a, keptN.elem a = true → h' a = h a) (h131 : ∀ k, 0 ≤ k → k < 1656 → h' 131 k = h 131 k) (hs : h' 0 0 = h' 130 2) (hf : h' 0 1 = h' 130 3 ∧ h' 0 2 = h' 130 4) (hT : TrR h') (ht : h' 9 2 = h' 130 10 ∧ (0 ≤ h' 9 2 ∧ h' 9 2 ≤ 900) ∧ ∀ i, 0 ≤ i → i < h' 9 2 → h' 10 i = h' 136 i ∧ inB (h' 10 i)) (hfa : h' 9 11 = h' 130 16 ∧ h' 9 12 = h' 130 17) (h3 : h' 0 3 = h 0 3) (h44 : h' 130 44 = h 130 44) (h45 : h' 130 45 = h 130 45) : Rel h' := by
  obtain ⟨R1, R2, R3, R4, R5, ⟨c, k⟩, R7, R8, R9⟩ := R
  refine ⟨hs, hf, hT, ht, hfa, ⟨c, k.mv (fun a h1 h2 => e a (elem_step 8 (by decide) h1 (by omega))) (fun a h1 h2 => e a (elem_step 7 (by decide) h1 (by omega))) (fun j h1 h2 => h131 j (by omega) (by omega)) (e 132 (by decide))⟩, ?_, ?_, ?_⟩
  · rw [e 56 (by decide), h45]
    refine ⟨R7.1, R7.2.1, fun j hj => ?_⟩
    obtain ⟨cj, kj⟩ := R7.2.2 j hj
    have hj3 : j = 0 ∨ j = 1 ∨ j = 2 := by have := R7.2.1; omega
    exact ⟨cj, kj.mv (fun a h1 h2 => e a (elem_step 8 (by rcases hj3 with rfl | rfl | rfl <;> decide) h1 (by omega))) (fun a h1 h2 => e a (elem_step 7 (by rcases hj3 with rfl | rfl | rfl <;> decide) h1 (by omega))) (fun i h1 h2 => h131 i (by omega) (by omega)) (e 132 (by decide))⟩
  · rw [h3, h44, e 107 (by decide), e 152 (by decide)]
    exact R8
  · rw [e 11 (by decide), e 150 (by decide)]
    exact R9
section
variable {xs : List Int} {d : Nat} {h : mM}
theorem t_isTray (x : Int) : C xs d 333 0 [mR 1, mI x] h = some ([mI (b2i (0 ≤ x ∧ x < 4))], h) := by
  rw [c_Tr_isTray]
  by_cases q : x < 0
  · rw [if_pos q, b2i_n (by omega)]
  · rw [if_neg q]
    by_cases q2 : x < 4
    · rw [if_pos q2, b2i_y (by omega)]
    · rw [if_neg q2, b2i_n (by omega)]
theorem m_isTray (x : Int) : C xs d 85 0 [mI x] h = some ([mI (b2i (0 ≤ x ∧ x < 4))], h) := by
  rw [c_M_isTray]
  by_cases q : x < 0
  · rw [if_pos q, b2i_n (by omega)]
  · rw [if_neg q]
    by_cases q2 : x < 4
    · rw [if_pos q2, b2i_y (by omega)]
    · rw [if_neg q2, b2i_n (by omega)]
theorem t_isSort (x : Int) : C xs d 334 0 [mR 1, mI x] h = some ([mI (b2i (0 ≤ x ∧ x ≤ 3))], h) := by
  rw [c_Tr_isSort]
  by_cases q : x < 0
  · rw [if_pos q, b2i_n (by omega)]
  · rw [if_neg q]
    by_cases q2 : 3 < x
    · rw [if_pos q2, b2i_n (by omega)]
    · rw [if_neg q2, b2i_y (by omega)]
theorem t_isMissing {x : Int} (hx : 0 ≤ x ∧ x < 4) : C xs d 335 0 [mR 1, mI x] h = some ([mI (b2i (h 8 x = -1))], h) := by
  rw [c_Tr_isMissing]
  refine if_y (by omega) ?_
  by_cases q : h 8 x = -1
  · rw [if_pos q, b2i_y q]
  · rw [if_neg q, b2i_n q]
theorem t_sort {x : Int} (hx : 0 ≤ x ∧ x < 4) : C xs d 337 0 [mR 1, mI x] h = some ([mI (h 7 x)], h) := by
  rw [c_Tr_sort]
  refine if_y (by omega) ?_
  rfl
theorem t_length {x : Int} (hx : 0 ≤ x ∧ x < 4) : C xs d 336 0 [mR 1, mI x] h = some ([mI (h 8 x)], h) := by
  rw [c_Tr_length]
  refine if_y (by omega) ?_
  rfl
theorem t_hasPl {x p m : Int} (hx : 0 ≤ x ∧ x < 4) (hp : inL (p + m)) : C xs d 338 0 [mR 1, mI x, mI p, mI m] h = some ([mI (b2i (p + m ≤ h 8 x))], h) := by
  rw [c_Tr_has]
  refine if_y (by omega) ?_
  refine if_y (by omega) ?_
  by_cases q : h 8 x < p + m
  · rw [if_pos q, b2i_n (by omega)]
  · rw [if_neg q, b2i_y (by omega)]
/-- what a tray says of a place -/
def plS (h : mM) (x y : Int) : Int := if 0 ≤ x ∧ x < 4 then (if h 8 x = -1 then 2 else if 0 ≤ y ∧ y < h 8 x then 0 else 3) else 1
theorem TrR.at' {x : Int} (T : TrR h) (hx : 0 ≤ x ∧ x < 4) : h 7 x = h 133 x ∧ h 8 x = h 134 x ∧ (0 ≤ h 7 x ∧ h 7 x ≤ 3) ∧ (-1 ≤ h 8 x ∧ h 8 x ≤ 60) ∧ ∀ i, 0 ≤ i → i < h 8 x → h (3 + x.toNat) i = h 135 (60 * x + i) ∧ inL (h (3 + x.toNat) i) := by
  have := T x.toNat (by omega)
  rw [show ((x.toNat : Nat) : Int) = x by omega] at this
  exact this
theorem t_placeStatus (T : TrR h) (x y : Int) : C xs d 9 0 [mR 0, mI x, mI y] h = some ([mI (plS h x y)], h) := by
  unfold plS
  rw [c_T_placeStatus]
  refine cI_of (t_isTray x) ?_
  by_cases q : 0 ≤ x ∧ x < 4
  · rw [if_pos q]
    have t := T.at' q
    refine if_n ((fun z => b2i_0.mp z q)) ?_
    refine cI_of (t_isMissing q) ?_
    by_cases q2 : h 8 x = -1
    · rw [if_pos q2]
      refine if_n ((fun z => b2i_0.mp z q2)) ?_
      rfl
    · rw [if_neg q2]
      refine if_y (b2i_0.mpr q2) ?_
      refine cI_of (t_length q) ?_
      refine if_y (by omega) ?_
      refine cI_of (t_within) ?_
      by_cases q3 : 0 ≤ y ∧ y < h 8 x
      · rw [if_pos q3]
        refine if_n ((fun z => b2i_0.mp z (by omega))) ?_
        rfl
      · rw [if_neg q3]
        refine if_y (b2i_0.mpr (by omega)) ?_
        rfl
  · rw [if_neg q]
    refine if_y (b2i_0.mpr q) ?_
    rfl
theorem m_wrongPlace (T : TrR h) {g : mM} (e : g 134 = h 134) (x y : Int) : C xs d 88 0 [mR 130, mI x, mI y] g = some ([mI (plS h x y)], g) := by
  unfold plS
  rw [c_M_wrongPlace]
  refine cI_of (m_isTray x) ?_
  by_cases q : 0 ≤ x ∧ x < 4
  · rw [if_pos q]
    have t := T.at' q
    refine if_n ((fun z => b2i_0.mp z q)) ?_
    refine if_y (by omega) ?_
    rw [e, ← t.2.1]
    by_cases q2 : h 8 x = -1
    · rw [if_pos q2, if_pos q2]
    · rw [if_neg q2, if_neg q2]
      by_cases q3 : 0 ≤ y ∧ y < h 8 x
      · rw [if_pos q3, if_neg (by omega)]
        refine if_y (by omega) ?_
        refine if_y (by omega) ?_
        rfl
      · rw [if_neg q3]
        by_cases q4 : y < 0
        · rw [if_pos q4]
        · rw [if_neg q4]
          refine if_y (by omega) ?_
          refine if_n (by omega) ?_
          rfl
  · rw [if_neg q]
    refine if_y (b2i_0.mpr q) ?_
    rfl
def cutS (s v : Int) : Int := if s = 0 then fI2b (fL2i v) else if s = 1 then fI2s (fL2i v) else if s = 2 then fL2i v else v
theorem t_cutTo (s v : Int) : C xs d 343 0 [mI s, mL v] h = some ([mL (cutS s v)], h) := by
  rw [c_Tr_cutTo]
  unfold cutS
  by_cases a : s = 0
  · rw [if_pos a, if_pos a]
  · rw [if_neg a, if_neg a]
    by_cases b : s = 1
    · rw [if_pos b, if_pos b]
    · rw [if_neg b, if_neg b]
      by_cases e : s = 2
      · rw [if_pos e, if_pos e]
      · rw [if_neg e, if_neg e]
theorem m_shrunk (s v : Int) : C xs d 86 0 [mL v, mI s] h = some ([mL (cutS s v)], h) := by
  rw [c_M_shrunk]
  unfold cutS
  by_cases a : s = 0
  · rw [if_pos a, if_pos a]
  · rw [if_neg a, if_neg a]
    by_cases b : s = 1
    · rw [if_pos b, if_pos b]
    · rw [if_neg b, if_neg b]
      by_cases e : s = 2
      · rw [if_pos e, if_pos e]
      · rw [if_neg e, if_neg e]
theorem i32_bd (x : Int32) : -2147483648 ≤ x.toInt ∧ x.toInt ≤ 2147483647 := by
  have a := Int32.minValue_le_toInt x
  have b := Int32.toInt_le x
  have e1 : Int32.minValue.toInt = -2147483648 := by decide
  have e2 : Int32.maxValue.toInt = 2147483647 := by decide
  omega
theorem fI2b_bd (x : Int) : inB (fI2b x) := by
  have e : fI2b x = (Int32.ofInt x).toInt8.toInt := by
    unfold fI2b
    rw [Int8.toInt_toInt32]
  rw [e]
  have a := Int8.minValue_le_toInt (Int32.ofInt x).toInt8
  have b := Int8.toInt_le (Int32.ofInt x).toInt8
  have e1 : Int8.minValue.toInt = -128 := by decide
  have e2 : Int8.maxValue.toInt = 127 := by decide
  omega
theorem cutS_bd {s v : Int} (hv : inL v) : inL (cutS s v) := by
  unfold cutS
  split
  · have := fI2b_bd (fL2i v); omega
  · split
    · unfold fI2s
      have := i32_bd (Int32.ofInt (fL2i v)).toInt16.toInt32; omega
    · split
      · unfold fL2i
        have := i32_bd (Int64.ofInt v).toInt32; omega
      · exact hv
theorem t_put {x y v : Int} (hx : 0 ≤ x ∧ x < 4) (hy : 0 ≤ y ∧ y < 60) : C xs d 341 0 [mR 1, mI x, mI y, mL v] h = some ([], upM h (3 + x.toNat) y (cutS (h 7 x) v)) := by
  rw [c_Tr_put, e_Tr_put_3 xs d _ _ _ _ (by omega)]
  refine if_y (by omega) ?_
  refine cL_of (t_cutTo _ _) ?_
  refine if_y (by omega) ?_
  rfl
theorem t_atTr {x y : Int} (hx : 0 ≤ x ∧ x < 4) (hy : 0 ≤ y ∧ y < 60) : C xs d 340 0 [mR 1, mI x, mI y] h = some ([mL (h (3 + x.toNat) y)], h) := by
  rw [c_Tr_at, e_Tr_at_3 xs d _ _ _ (by omega)]
  refine if_y (by omega) ?_
  rfl
theorem trays_st {t : Nat} (ht : t < 4) : 3 + t = 3 ∨ 3 + t = 4 ∨ 3 + t = 5 ∨ 3 + t = 6 := by omega
/-- a number is put into a tray -/
theorem TrR.put {h' : mM} (T : TrR h) {x y v : Int} (hx : 0 ≤ x ∧ x < 4) (hy : 0 ≤ y ∧ y < 60) (hv : inL v) (e7 : h' 7 = h 7) (e8 : h' 8 = h 8) (e133 : h' 133 = h 133) (e134 : h' 134 = h 134) (eT : ∀ t : Nat, t < 4 → ∀ i, h' (3 + t) i = if t = x.toNat ∧ i = y then v else h (3 + t) i) (eM : ∀ j, h' 135 j = if j = 60 * x + y then v else h 135 j) : TrR h' := by
  intro t ht
  obtain ⟨a1, a2, a3, a4, a5⟩ := T t ht
  rw [e7, e8, e133, e134]
  refine ⟨a1, a2, a3, a4, fun i h1 h2 => ?_⟩
  have := a5 i h1 h2
  rw [eT t ht, eM]
  by_cases q : t = x.toNat ∧ i = y
  · rw [if_pos q, if_pos (by omega)]
    exact ⟨rfl, hv⟩
  · rw [if_neg q, if_neg (by omega)]
    exact this
end
theorem kN {a : Nat} (z : keptN.elem a = true) : (11 ≤ a ∧ a ≤ 107) ∨ a = 132 ∨ a = 150 ∨ a = 152 := by
  have : ∀ a ∈ keptN, (11 ≤ a ∧ a ≤ 107) ∨ a = 132 ∨ a = 150 ∨ a = 152 := by decide
  exact this a (List.elem_iff.mp z)
section
variable {xs : List Int} {d : Nat} {h : mM}
theorem Rel.tp (R : Rel h) : TrR h := R.2.2.1
theorem TrR.st (T : TrR h) (s : Int) : TrR (upM h 0 0 s) := fun t ht => by
  rw [up_row (by omega), up_row (by omega), up_row (by omega), up_row (by omega), up_row (by omega), up_row (by omega)]
  exact T t ht
theorem TrR.st2 (T : TrR h) (i s : Int) : TrR (upM h 130 i s) := fun t ht => by
  rw [up_row (by omega), up_row (by omega), up_row (by omega), up_row (by omega), up_row (by omega), up_row (by omega)]
  exact T t ht
/-- but for trays and the status all is as it was -/
theorem Rel.trays {h' : mM} (R : Rel h) (T : TrR h') (e : ∀ a, (11 ≤ a ∧ a ≤ 107) ∨ a = 9 ∨ a = 10 ∨ a = 131 ∨ a = 132 ∨ a = 136 ∨ a = 150 ∨ a = 152 → h' a = h a) (e0 : ∀ k, k ≠ 0 → h' 0 k = h 0 k) (e1 : ∀ k, k ≠ 2 → h' 130 k = h 130 k) (hs : h' 0 0 = h' 130 2) : Rel h' := by
  refine R.loc (fun a z => e a (by have := kN z; omega)) (fun k _ _ => by rw [e 131 (by omega)]) hs ?_ T ?_ ?_ (e0 3 (by omega)) (e1 44 (by omega)) (e1 45 (by omega))
  · rw [e0 1 (by omega), e0 2 (by omega), e1 3 (by omega), e1 4 (by omega)]
    exact R.2.1
  · rw [e 9 (by omega), e 10 (by omega), e 136 (by omega), e1 10 (by omega)]
    exact R.2.2.2.1
  · rw [e 9 (by omega), e1 16 (by omega), e1 17 (by omega)]
    exact R.2.2.2.2.1
theorem c_deny (s : Int) : C xs d 70 0 [mR 0, mI s] h = some ([mI 0], upM h 0 0 s) := c_T_deny xs d s h
theorem q_write (R : Rel h) (x y v : Int) (hv : inL v) : QI xs d h 6 89 [mI x, mI y, mL v] := by
  have T := R.tp
  by_cases q : plS h x y = 0
  · have hx : 0 ≤ x ∧ x < 4 := by
      unfold plS at q
      by_cases z : 0 ≤ x ∧ x < 4
      · exact z
      · rw [if_neg z] at q; omega
    have hy : 0 ≤ y ∧ y < h 8 x := by
      unfold plS at q
      rw [if_pos hx] at q
      by_cases z1 : h 8 x = -1
      · rw [if_pos z1] at q; omega
      · rw [if_neg z1] at q
        by_cases z : 0 ≤ y ∧ y < h 8 x
        · exact z
        · rw [if_neg z] at q; omega
    obtain ⟨t1, t2, t3, t4, t5⟩ := T.at' hx
    refine ⟨1, upM (upM h (3 + x.toNat) y (cutS (h 7 x) v)) 0 0 0, upM (upM (upM (upM h (3 + x.toNat) y (cutS (h 7 x) v)) 0 0 0) 135 (60 * x + y) (cutS (h 7 x) v)) 130 2 0, ?_, ?_, ?_⟩
    · rw [c_T_write]
      refine cI_of (t_placeStatus T x y) ?_
      refine if_y (q) ?_
      refine cV_of (t_put hx (by omega)) ?_
      refine cI_of (c_T_grant xs d _) ?_
      refine if_y (by omega) ?_
      rfl
    · rw [c_M_write]
      refine cI_of (m_wrongPlace T (by rw [up_row (by omega), up_row (by omega)]) x y) ?_
      refine if_y (q) ?_
      refine if_y (by omega) ?_
      refine if_y (by omega) ?_
      refine if_y (by omega) ?_
      refine cL_of (m_shrunk _ _) ?_
      refine if_y (by omega) ?_
      rw [up_row (show (133 : Nat) ≠ 0 by omega), up_row (show (133 : Nat) ≠ 3 + x.toNat by omega), ← t1, q]
      refine cI_of (c_M_is xs d _ _) ?_
      refine if_y (by omega) ?_
      rfl
    · refine R.trays (T.put (x := x) (y := y) (v := cutS (h 7 x) v) hx (by omega) (cutS_bd hv) ?_ ?_ ?_ ?_ ?_ ?_) ?_ ?_ ?_ ?_
      · rw [up_row (by omega), up_row (by omega), up_row (by omega), up_row (by omega)]
      · rw [up_row (by omega), up_row (by omega), up_row (by omega), up_row (by omega)]
      · rw [up_row (by omega), up_row (by omega), up_row (by omega), up_row (by omega)]
      · rw [up_row (by omega), up_row (by omega), up_row (by omega), up_row (by omega)]
      · intro t ht i
        rw [up_row (by omega), up_row (by omega), up_row (by omega)]
        by_cases e : t = x.toNat
        · subst e
          rw [up_at]
          by_cases e2 : i = y
          · rw [if_pos e2, if_pos ⟨rfl, e2⟩]
          · rw [if_neg e2, if_neg (fun z => e2 z.2)]
        · rw [up_row (by omega), if_neg (fun z => e z.1)]
      · intro j
        rw [up_row (by omega), up_at, up_row (by omega), up_row (by omega)]
      · intro a ha
        rw [up_row (by omega), up_row (by omega), up_row (by omega), up_row (by omega)]
      · intro k hk
        rw [up_row (by omega), up_row (by omega), up_at, if_neg hk, up_row (by omega)]
      · intro k hk
        rw [up_at, if_neg hk, up_row (by omega), up_row (by omega), up_row (by omega)]
      · rw [up_row (by omega), up_row (by omega), up_eq, up_eq]
  · refine ⟨0, upM h 0 0 (plS h x y), upM (upM h 0 0 (plS h x y)) 130 2 (plS h x y), ?_, ?_, R.st _⟩
    · rw [c_T_write]
      refine cI_of (t_placeStatus T x y) ?_
      refine if_n (q) ?_
      refine cI_of (c_T_deny xs d _ _) ?_
      refine if_y (by omega) ?_
      rfl
    · rw [c_M_write]
      refine cI_of (m_wrongPlace T (by rw [up_row (by omega)]) x y) ?_
      refine if_n (q) ?_
      have e : C xs d 81 0 [mR 130, mI (plS h x y)] (upM h 0 0 (plS h x y)) = some ([mI 0], upM (upM h 0 0 (plS h x y)) 130 2 (plS h x y)) := by
        rw [c_M_is]
        exact if_neg q
      refine cI_of (e) ?_
      refine if_y (by omega) ?_
      rfl
theorem q_read (R : Rel h) (x y : Int) : QL xs d h 7 90 [mI x, mI y] := by
  have T := R.tp
  by_cases q : plS h x y = 0
  · have hx : 0 ≤ x ∧ x < 4 := by
      unfold plS at q
      by_cases z : 0 ≤ x ∧ x < 4
      · exact z
      · rw [if_neg z] at q; omega
    have hy : 0 ≤ y ∧ y < h 8 x := by
      unfold plS at q
      rw [if_pos hx] at q
      by_cases z1 : h 8 x = -1
      · rw [if_pos z1] at q; omega
      · rw [if_neg z1] at q
        by_cases z : 0 ≤ y ∧ y < h 8 x
        · exact z
        · rw [if_neg z] at q; omega
    obtain ⟨t1, t2, t3, t4, t5⟩ := T.at' hx
    refine ⟨h (3 + x.toNat) y, upM h 0 0 0, upM (upM h 0 0 0) 130 2 0, ?_, ?_, R.st 0⟩
    · rw [c_T_read]
      refine cI_of (t_placeStatus T x y) ?_
      refine if_y (q) ?_
      refine cL_of (t_atTr hx (by omega)) ?_
      rw [up_row (by omega)]
    · rw [c_M_read]
      refine cI_of (m_wrongPlace T (by rw [up_row (by omega)]) x y) ?_
      rw [q]
      refine if_n (by omega) ?_
      refine if_y (by omega) ?_
      refine if_y (by omega) ?_
      refine if_y (by omega) ?_
      rw [up_row (by omega), ← (t5 y hy.1 hy.2).1]
  · refine ⟨-1, upM h 0 0 (plS h x y), upM (upM h 0 0 (plS h x y)) 130 2 (plS h x y), ?_, ?_, R.st _⟩
    · rw [c_T_read]
      refine cI_of (t_placeStatus T x y) ?_
      refine if_n (q) ?_
      refine cI_of (c_T_refuse xs d _ _) ?_
      rfl
    · rw [c_M_read]
      refine cI_of (m_wrongPlace T (by rw [up_row (by omega)]) x y) ?_
      have : 0 ≤ plS h x y := by
        unfold plS
        split
        · split
          · omega
          · split <;> omega
        · omega
      refine if_y (by omega) ?_
      rfl
theorem q_fault (R : Rel h) (x : Int) : QI xs d h 14 109 [mI x] := by
  have e := R.2.2.2.2.1
  refine ⟨if x = 0 then h 9 11 else if x = 1 then h 9 12 else -1, h, h, ?_, ?_, R⟩
  · rw [c_T_fault]
    by_cases q : x = 0
    · rw [if_pos q, if_pos q]
      refine cI_of (c_Tp_faultKind xs d h) ?_
      rfl
    · rw [if_neg q, if_neg q]
      by_cases q2 : x = 1
      · rw [if_pos q2, if_pos q2]
        refine cI_of (c_Tp_faultPlace xs d h) ?_
        rfl
      · rw [if_neg q2, if_neg q2]
  · rw [c_M_fault, e.1, e.2]
    by_cases q : x = 0
    · rw [if_pos q, if_pos q]
    · rw [if_neg q, if_neg q]
      by_cases q2 : x = 1
      · rw [if_pos q2, if_pos q2]
      · rw [if_neg q2, if_neg q2]
theorem q_tray (R : Rel h) (x y z : Int) : QI xs d h 5 87 [mI x, mI y, mI z] := by
  have T := R.tp
  by_cases q1 : 0 ≤ x ∧ x < 4
  rotate_left
  · refine QI.ans R 1 0 ?_ ?_
    · rw [c_T_tray]
      refine cI_of (t_isTray x) ?_
      refine if_y (b2i_0.mpr q1) ?_
      refine cI_of (c_T_deny xs d _ _) ?_
      refine if_y (by omega) ?_
      rfl
    · rw [c_M_tray]
      refine cI_of (m_isTray x) ?_
      refine if_y (b2i_0.mpr q1) ?_
      refine cI_of (c_M_is xs d _ _) ?_
      refine if_y (by omega) ?_
      rfl
  by_cases q2 : 0 ≤ y ∧ y ≤ 3
  rotate_left
  · refine QI.ans R 1 0 ?_ ?_
    · rw [c_T_tray]
      refine cI_of (t_isTray x) ?_
      refine if_n ((fun z => b2i_0.mp z q1)) ?_
      refine cI_of (t_isSort y) ?_
      refine if_y (b2i_0.mpr q2) ?_
      refine cI_of (c_T_deny xs d _ _) ?_
      refine if_y (by omega) ?_
      rfl
    · rw [c_M_tray]
      refine cI_of (m_isTray x) ?_
      refine if_n ((fun z => b2i_0.mp z q1)) ?_
      by_cases z1 : y < 0
      · rw [if_pos z1]
        refine cI_of (c_M_is xs d _ _) ?_
        refine if_y (by omega) ?_
        rfl
      · rw [if_neg z1]
        refine if_y (by omega) ?_
        refine cI_of (c_M_is xs d _ _) ?_
        refine if_y (by omega) ?_
        rfl
  by_cases q3 : 0 ≤ z ∧ z ≤ 60
  rotate_left
  · refine QI.ans R 1 0 ?_ ?_
    · rw [c_T_tray]
      refine cI_of (t_isTray x) ?_
      refine if_n ((fun z => b2i_0.mp z q1)) ?_
      refine cI_of (t_isSort y) ?_
      refine if_n ((fun z => b2i_0.mp z q2)) ?_
      refine cI_of (t_within) ?_
      refine if_y (b2i_0.mpr q3) ?_
      refine cI_of (c_T_deny xs d _ _) ?_
      refine if_y (by omega) ?_
      rfl
    · rw [c_M_tray]
      refine cI_of (m_isTray x) ?_
      refine if_n ((fun z => b2i_0.mp z q1)) ?_
      refine if_n (by omega) ?_
      refine if_n (by omega) ?_
      by_cases z1 : z < 0
      · rw [if_pos z1]
        refine cI_of (c_M_is xs d _ _) ?_
        refine if_y (by omega) ?_
        rfl
      · rw [if_neg z1]
        refine if_y (by omega) ?_
        refine cI_of (c_M_is xs d _ _) ?_
        refine if_y (by omega) ?_
        rfl
  obtain ⟨n, rfl⟩ : ∃ n : Nat, z = (n : Int) := ⟨z.toNat, by omega⟩
  have tl : C xs d 339 0 [mR 1, mI x, mI y, mI (n : Int)] h = some ([], rowU (upM (upM h 7 x y) 8 x (n : Int)) (3 + x.toNat) (n : Int) (fun _ => 0)) := by
    rw [c_Tr_lay]
    refine if_y (by omega) ?_
    refine if_y (by omega) ?_
    have st : ∀ i : Nat, i < n → X xs d k_Tr_lay 12 [mR 1, mI x, mI y, mI (n : Int), mI (i : Int)] [] (rowU (upM (upM h 7 x y) 8 x (n : Int)) (3 + x.toNat) (i : Int) (fun _ => 0)) = X xs d k_Tr_lay 12 [mR 1, mI x, mI y, mI (n : Int), mI ((i + 1 : Nat) : Int)] [] (rowU (upM (upM h 7 x y) 8 x (n : Int)) (3 + x.toNat) ((i + 1 : Nat) : Int) (fun _ => 0)) := by
      intro i hi
      rw [e_Tr_lay_12, if_pos (by omega), e_Tr_lay_18 xs d _ _ _ _ _ (by omega)]
      refine if_y (by omega) ?_
      refine if_y (by omega) ?_
      rw [rowU_up (by omega) rfl]
      rfl
    refine (congrArg (fun g => X xs d k_Tr_lay 12 [mR 1, mI x, mI y, mI (n : Int), mI 0] [] g) (rowU_0 (h := upM (upM h 7 x y) 8 x (n : Int)) (a := 3 + x.toNat) (f := fun _ => 0)).symm).trans ?_
    refine (run_to (fun i : Nat => X xs d k_Tr_lay 12 [mR 1, mI x, mI y, mI (n : Int), mI (i : Int)] [] (rowU (upM (upM h 7 x y) 8 x (n : Int)) (3 + x.toNat) (i : Int) (fun _ => 0))) st).trans ?_
    rw [e_Tr_lay_12, if_neg (by omega)]
  generalize hg : rowU (upM (upM h 7 x y) 8 x (n : Int)) (3 + x.toNat) (n : Int) (fun _ => 0) = g at tl
  have ml : ∀ f : mM, X xs d k_M_tray 29 [mR 130, mI x, mI y, mI (n : Int), mI 0] [] f = some ([mI 1], upM (rowW f 135 (60 * x) (n : Int) (fun _ => 0)) 130 2 0) := by
    intro f
    have st : ∀ i : Nat, i < n → X xs d k_M_tray 29 [mR 130, mI x, mI y, mI (n : Int), mI (i : Int)] [] (rowW f 135 (60 * x) (i : Int) (fun _ => 0)) = X xs d k_M_tray 29 [mR 130, mI x, mI y, mI (n : Int), mI ((i + 1 : Nat) : Int)] [] (rowW f 135 (60 * x) ((i + 1 : Nat) : Int) (fun _ => 0)) := by
      intro i hi
      rw [e_M_tray_29]
      refine if_y (by omega) ?_
      refine if_y (by omega) ?_
      refine if_y (by omega) ?_
      refine if_y (by omega) ?_
      refine if_y (by omega) ?_
      rw [rowW_up (by omega) rfl]
      rfl
    refine (congrArg (fun g => X xs d k_M_tray 29 [mR 130, mI x, mI y, mI (n : Int), mI 0] [] g) (rowW_0 (h := f) (a := 135) (lo := 60 * x) (f := fun _ => 0)).symm).trans ?_
    refine (run_to (fun i : Nat => X xs d k_M_tray 29 [mR 130, mI x, mI y, mI (n : Int), mI (i : Int)] [] (rowW f 135 (60 * x) (i : Int) (fun _ => 0))) st).trans ?_
    rw [e_M_tray_29]
    refine if_n (by omega) ?_
    refine cI_of (c_M_is xs d _ _) ?_
    refine if_y (by omega) ?_
    rfl
  refine ⟨1, upM g 0 0 0, upM (rowW (upM (upM (upM g 0 0 0) 133 x y) 134 x (n : Int)) 135 (60 * x) (n : Int) (fun _ => 0)) 130 2 0, ?_, ?_, ?_⟩
  · rw [c_T_tray]
    refine cI_of (t_isTray x) ?_
    refine if_n ((fun z => b2i_0.mp z q1)) ?_
    refine cI_of (t_isSort y) ?_
    refine if_n ((fun z => b2i_0.mp z q2)) ?_
    refine cI_of (t_within) ?_
    refine if_n ((fun z => b2i_0.mp z q3)) ?_
    refine cV_of (tl) ?_
    refine cI_of (c_T_grant xs d _) ?_
    refine if_y (by omega) ?_
    rfl
  · rw [c_M_tray]
    refine cI_of (m_isTray x) ?_
    refine if_n ((fun z => b2i_0.mp z q1)) ?_
    refine if_n (by omega) ?_
    refine if_n (by omega) ?_
    refine if_n (by omega) ?_
    refine if_n (by omega) ?_
    refine if_y (by omega) ?_
    refine if_y (by omega) ?_
    exact ml _
  · have gr : ∀ a, a ≠ 7 → a ≠ 8 → a ≠ 3 + x.toNat → g a = h a := fun a h1 h2 h3 => by rw [← hg, rowU_ne h3, up_row h2, up_row h1]
    have g7 : ∀ k, g 7 k = if k = x then y else h 7 k := fun k => by rw [← hg, rowU_ne (by omega), up_row (by omega), up_at]
    have g8 : ∀ k, g 8 k = if k = x then (n : Int) else h 8 k := fun k => by rw [← hg, rowU_ne (by omega), up_at, up_row (by omega)]
    have gx : ∀ i, 0 ≤ i → i < (n : Int) → g (3 + x.toNat) i = 0 := fun i h1 h2 => by rw [← hg, rowU_in ⟨h1, h2⟩]
    generalize hF : upM (rowW (upM (upM (upM g 0 0 0) 133 x y) 134 x (n : Int)) 135 (60 * x) (n : Int) (fun _ => 0)) 130 2 0 = F
    have fr : ∀ a, a ≠ 0 → a ≠ 130 → a ≠ 133 → a ≠ 134 → a ≠ 135 → F a = g a := fun a h1 h2 h3 h4 h5 => by rw [← hF, up_row h2, rowW_ne h5, up_row h4, up_row h3, up_row h1]
    have f133 : ∀ k, F 133 k = if k = x then y else g 133 k := fun k => by rw [← hF, up_row (by omega), rowW_ne (by omega), up_row (by omega), up_at, up_row (by omega)]
    have f134 : ∀ k, F 134 k = if k = x then (n : Int) else g 134 k := fun k => by rw [← hF, up_row (by omega), rowW_ne (by omega), up_at, up_row (by omega), up_row (by omega)]
    have f135 : ∀ k, ¬ (60 * x ≤ k ∧ k < 60 * x + n) → F 135 k = g 135 k := fun k hk => by rw [← hF, up_row (by omega), rowW_out hk, up_row (by omega), up_row (by omega), up_row (by omega)]
    have f135' : ∀ k, 60 * x ≤ k ∧ k < 60 * x + n → F 135 k = 0 := fun k hk => by rw [← hF, up_row (by omega), rowW_in hk]
    refine R.trays ?_ ?_ ?_ ?_ ?_
    · intro t ht
      rw [fr 7 (by omega) (by omega) (by omega) (by omega) (by omega), fr 8 (by omega) (by omega) (by omega) (by omega) (by omega), fr (3 + t) (by omega) (by omega) (by omega) (by omega) (by omega), f133, f134]
      obtain ⟨a1, a2, a3, a4, a5⟩ := T t ht
      rw [g7, g8]
      by_cases e : (t : Int) = x
      · rw [if_pos e, if_pos e, if_pos e, if_pos e]
        refine ⟨rfl, rfl, q2, by omega, fun i h1 h2 => ?_⟩
        rw [show t = x.toNat by omega, gx i h1 h2, f135' _ (by omega)]
        exact ⟨rfl, by omega⟩
      · rw [if_neg e, if_neg e, if_neg e, if_neg e, gr 133 (by omega) (by omega) (by omega), gr 134 (by omega) (by omega) (by omega)]
        refine ⟨a1, a2, a3, a4, fun i h1 h2 => ?_⟩
        rw [gr (3 + t) (by omega) (by omega) (by omega), f135 _ (by omega), gr 135 (by omega) (by omega) (by omega)]
        exact a5 i h1 h2
    · intro a ha
      rw [fr a (by omega) (by omega) (by omega) (by omega) (by omega), gr a (by omega) (by omega) (by omega)]
    · intro k hk
      rw [← hF, up_row (by omega), rowW_ne (by omega), up_row (by omega), up_row (by omega), up_at, if_neg hk, gr 0 (by omega) (by omega) (by omega)]
    · intro k hk
      rw [← hF, up_at, if_neg hk, rowW_ne (by omega), up_row (by omega), up_row (by omega), up_row (by omega), gr 130 (by omega) (by omega) (by omega)]
    · rw [← hF, up_row (by omega), rowW_ne (by omega), up_row (by omega), up_row (by omega), up_eq, up_eq]
end
section
variable {xs : List Int} {d : Nat} {h : mM}
theorem m_isNo {s : Int} (hs : s ≠ 0) : C xs d 81 0 [mR 130, mI s] h = some ([mI 0], upM h 130 2 s) := by
  rw [c_M_is]
  exact if_neg hs
theorem m_isYes : C xs d 81 0 [mR 130, mI 0] h = some ([mI 1], upM h 130 2 0) := by
  rw [c_M_is]
  exact if_pos rfl
def pouS (h : mM) (x1 x2 x3 x4 x5 : Int) : Int := if (0 ≤ x1 ∧ x1 < 4) ∧ (0 ≤ x3 ∧ x3 < 4) ∧ 0 ≤ x2 ∧ 0 ≤ x4 ∧ 0 ≤ x5 then (if h 8 x1 = -1 ∨ h 8 x3 = -1 then 2 else if h 7 x1 = h 7 x3 then (if x2 + x5 ≤ h 8 x1 ∧ x4 + x5 ≤ h 8 x3 then 0 else 3) else 8) else 1
theorem t_pourStatus {x1 x2 x3 x4 x5 : Int} (h2 : inI x2) (h4 : inI x4) (h5 : inI x5) : C xs d 10 0 [mR 0, mI x1, mI x2, mI x3, mI x4, mI x5] h = some ([mI (pouS h x1 x2 x3 x4 x5)], h) := by
  rw [c_T_pourStatus]
  unfold pouS
  refine cI_of (t_isTray x1) ?_
  by_cases q1 : 0 ≤ x1 ∧ x1 < 4
  rotate_left
  · refine if_y (b2i_0.mpr q1) ?_
    rw [if_neg (fun z => q1 z.1)]
  refine if_n ((fun z => b2i_0.mp z q1)) ?_
  refine cI_of (t_isTray x3) ?_
  by_cases q3 : 0 ≤ x3 ∧ x3 < 4
  rotate_left
  · refine if_y (b2i_0.mpr q3) ?_
    rw [if_neg (fun z => q3 z.2.1)]
  refine if_n ((fun z => b2i_0.mp z q3)) ?_
  by_cases q2 : x2 < 0
  · rw [if_pos q2, if_neg (by omega)]
  rw [if_neg q2]
  by_cases q4 : x4 < 0
  · rw [if_pos q4, if_neg (by omega)]
  rw [if_neg q4]
  by_cases q5 : x5 < 0
  · rw [if_pos q5, if_neg (by omega)]
  rw [if_neg q5]
  rw [if_pos (show (0 ≤ x1 ∧ x1 < 4) ∧ (0 ≤ x3 ∧ x3 < 4) ∧ 0 ≤ x2 ∧ 0 ≤ x4 ∧ 0 ≤ x5 by omega)]
  refine cI_of (t_isMissing q1) ?_
  by_cases e1 : h 8 x1 = -1
  · refine if_n ((fun z => b2i_0.mp z e1)) ?_
    rw [if_pos (Or.inl e1)]
  refine if_y (b2i_0.mpr e1) ?_
  refine cI_of (t_isMissing q3) ?_
  by_cases e3 : h 8 x3 = -1
  · refine if_n ((fun z => b2i_0.mp z e3)) ?_
    rw [if_pos (Or.inr e3)]
  refine if_y (b2i_0.mpr e3) ?_
  rw [if_neg (show ¬ (h 8 x1 = -1 ∨ h 8 x3 = -1) from fun z => z.elim e1 e3)]
  refine cI_of (t_sort q1) ?_
  refine cI_of (t_sort q3) ?_
  by_cases e7 : h 7 x1 = h 7 x3
  rotate_left
  · rw [if_neg e7, if_neg e7]
  rw [if_pos e7, if_pos e7]
  refine cI_of (t_hasPl q1 (by omega)) ?_
  by_cases l1 : x2 + x5 ≤ h 8 x1
  rotate_left
  · refine if_y (b2i_0.mpr l1) ?_
    rw [if_neg (fun z => l1 z.1)]
  refine if_n ((fun z => b2i_0.mp z l1)) ?_
  refine cI_of (t_hasPl q3 (by omega)) ?_
  by_cases l3 : x4 + x5 ≤ h 8 x3
  rotate_left
  · refine if_y (b2i_0.mpr l3) ?_
    rw [if_neg (fun z => l3 z.2)]
  refine if_n ((fun z => b2i_0.mp z l3)) ?_
  rw [if_pos ⟨l1, l3⟩]
/-- the reference's copying, from where nothing is lost -/
theorem m_pours {x1 x2 x3 x4 : Int} {n : Nat} (q1 : 0 ≤ x1 ∧ x1 < 4) (q3 : 0 ≤ x3 ∧ x3 < 4) (q2 : 0 ≤ x2) (q4 : 0 ≤ x4) (l1 : x2 + n ≤ 60) (l3 : x4 + n ≤ 60) (f : mM) : ∃ g, X xs d k_M_pour 67 [mR 130, mI x1, mI x2, mI x3, mI x4, mI (n : Int), mI 0, mC 0] [] f = some ([mI 1], upM g 130 2 0) ∧ (∀ a, a ≠ 135 → g a = f a) ∧ ∀ k, g 135 k = if 60 * x3 + x4 ≤ k ∧ k < 60 * x3 + x4 + n then f 135 (60 * x1 + x2 + (k - (60 * x3 + x4))) else f 135 k := by
  by_cases q : x2 < x4
  · have key : ∀ (m i : Nat) (g : mM) (x7 : mv), i + m = n → (∀ a, a ≠ 135 → g a = f a) → (∀ k, g 135 k = if 60 * x3 + x4 + (n : Int) - (i : Int) ≤ k ∧ k < 60 * x3 + x4 + n then f 135 (60 * x1 + x2 + (k - (60 * x3 + x4))) else f 135 k) → ∃ g', X xs d k_M_pour 67 [mR 130, mI x1, mI x2, mI x3, mI x4, mI (n : Int), mI (i : Int), x7] [] g = some ([mI 1], upM g' 130 2 0) ∧ (∀ a, a ≠ 135 → g' a = f a) ∧ ∀ k, g' 135 k = if 60 * x3 + x4 ≤ k ∧ k < 60 * x3 + x4 + n then f 135 (60 * x1 + x2 + (k - (60 * x3 + x4))) else f 135 k := by
      intro m
      induction m with
      | zero =>
        intro i g x7 hi ga gk
        refine ⟨g, ?_, ga, fun k => ?_⟩
        · rw [e_M_pour_67]
          refine if_n (by omega) ?_
          refine cI_of (m_isYes) ?_
          refine if_y (by omega) ?_
          rfl
        · rw [gk k, show 60 * x3 + x4 + (n : Int) - (i : Int) = 60 * x3 + x4 by omega]
      | succ m ih =>
        intro i g x7 hi ga gk
        have src : g 135 (60 * x1 + x2 + ((n : Int) - 1 - (i : Int))) = f 135 (60 * x1 + x2 + ((n : Int) - 1 - (i : Int))) := by
          rw [gk, if_neg (by omega)]
        obtain ⟨g', r1, r2⟩ := ih (i + 1) (upM g 135 (60 * x3 + x4 + ((n : Int) - 1 - (i : Int))) (g 135 (60 * x1 + x2 + ((n : Int) - 1 - (i : Int))))) (mI ((n : Int) - 1 - (i : Int))) (by omega) (fun a ha => by rw [up_row ha]; exact ga a ha) (fun k => by
          rw [up_at, src]
          by_cases e : k = 60 * x3 + x4 + ((n : Int) - 1 - (i : Int))
          · rw [if_pos e, if_pos (by omega)]
            congr 1
            omega
          · rw [if_neg e, gk k]
            by_cases z : 60 * x3 + x4 + (n : Int) - (i : Int) ≤ k ∧ k < 60 * x3 + x4 + n
            · rw [if_pos z, if_pos (by omega)]
            · rw [if_neg z, if_neg (by omega)])
        refine ⟨g', ?_, r2⟩
        rw [e_M_pour_67]
        refine if_y (by omega) ?_
        refine if_y (by omega) ?_
        refine if_y (by omega) ?_
        refine if_y (by omega) ?_
        rw [e_M_pour_80]
        refine if_y (by omega) ?_
        refine if_y (by omega) ?_
        refine if_y (by omega) ?_
        refine if_y (by omega) ?_
        refine if_y (by omega) ?_
        refine if_y (by omega) ?_
        refine if_y (by omega) ?_
        refine if_y (by omega) ?_
        refine if_y (by omega) ?_
        exact r1
    exact key n 0 f (mC 0) (by omega) (fun _ _ => rfl) (fun k => by rw [if_neg (by omega)])
  · have key : ∀ (m i : Nat) (g : mM) (x7 : mv), i + m = n → (∀ a, a ≠ 135 → g a = f a) → (∀ k, g 135 k = if 60 * x3 + x4 ≤ k ∧ k < 60 * x3 + x4 + (i : Int) then f 135 (60 * x1 + x2 + (k - (60 * x3 + x4))) else f 135 k) → ∃ g', X xs d k_M_pour 67 [mR 130, mI x1, mI x2, mI x3, mI x4, mI (n : Int), mI (i : Int), x7] [] g = some ([mI 1], upM g' 130 2 0) ∧ (∀ a, a ≠ 135 → g' a = f a) ∧ ∀ k, g' 135 k = if 60 * x3 + x4 ≤ k ∧ k < 60 * x3 + x4 + n then f 135 (60 * x1 + x2 + (k - (60 * x3 + x4))) else f 135 k := by
      intro m
      induction m with
      | zero =>
        intro i g x7 hi ga gk
        refine ⟨g, ?_, ga, fun k => ?_⟩
        · rw [e_M_pour_67]
          refine if_n (by omega) ?_
          refine cI_of (m_isYes) ?_
          refine if_y (by omega) ?_
          rfl
        · rw [gk k, show i = n by omega]
      | succ m ih =>
        intro i g x7 hi ga gk
        have src : g 135 (60 * x1 + x2 + (i : Int)) = f 135 (60 * x1 + x2 + (i : Int)) := by
          rw [gk, if_neg (by omega)]
        obtain ⟨g', r1, r2⟩ := ih (i + 1) (upM g 135 (60 * x3 + x4 + (i : Int)) (g 135 (60 * x1 + x2 + (i : Int)))) (mI (i : Int)) (by omega) (fun a ha => by rw [up_row ha]; exact ga a ha) (fun k => by
          rw [up_at, src]
          by_cases e : k = 60 * x3 + x4 + (i : Int)
          · rw [if_pos e, if_pos (by omega)]
            congr 1
            omega
          · rw [if_neg e, gk k]
            by_cases z : 60 * x3 + x4 ≤ k ∧ k < 60 * x3 + x4 + (i : Int)
            · rw [if_pos z, if_pos (by omega)]
            · rw [if_neg z, if_neg (by omega)])
        refine ⟨g', ?_, r2⟩
        rw [e_M_pour_67]
        refine if_y (by omega) ?_
        refine if_n (by omega) ?_
        rw [e_M_pour_80]
        refine if_y (by omega) ?_
        refine if_y (by omega) ?_
        refine if_y (by omega) ?_
        refine if_y (by omega) ?_
        refine if_y (by omega) ?_
        refine if_y (by omega) ?_
        refine if_y (by omega) ?_
        refine if_y (by omega) ?_
        refine if_y (by omega) ?_
        exact r1
    exact key n 0 f (mC 0) (by omega) (fun _ _ => rfl) (fun k => by rw [if_neg (by omega)])
theorem four_of {x : Int} (h : 0 ≤ x ∧ x < 4) : x = 0 ∨ x = 1 ∨ x = 2 ∨ x = 3 := by omega
theorem t_copyTr {x1 x2 x3 x4 x5 : Int} (q1 : 0 ≤ x1 ∧ x1 < 4) (q3 : 0 ≤ x3 ∧ x3 < 4) (q2 : 0 ≤ x2) (q4 : 0 ≤ x4) (q5 : 0 ≤ x5) (l1 : x2 + x5 ≤ 60) (l3 : x4 + x5 ≤ 60) : C xs d 342 0 [mR 1, mI x1, mI x2, mI x3, mI x4, mI x5] h = some ([], mCpy h (3 + x1.toNat) x2 (3 + x3.toNat) x4 x5) := by
  rw [c_Tr_copy, e_Tr_copy_3 xs d _ _ _ _ _ _ (by omega), e_Tr_copy_8 xs d _ _ _ _ _ _ _ (by
    rcases four_of q1 with rfl | rfl | rfl | rfl <;> rcases four_of q3 with rfl | rfl | rfl | rfl <;> simp)]
  exact if_pos (by omega)
theorem q_pour (R : Rel h) (x1 x2 x3 x4 x5 : Int) (h2 : inI x2) (h4 : inI x4) (h5 : inI x5) : QI xs d h 8 91 [mI x1, mI x2, mI x3, mI x4, mI x5] := by
  have T := R.tp
  have ts := t_pourStatus (xs := xs) (d := d) (h := h) (x1 := x1) (x3 := x3) h2 h4 h5
  have no : ∀ s : Int, s ≠ 0 → pouS h x1 x2 x3 x4 x5 = s → C xs d 8 0 [mR 0, mI x1, mI x2, mI x3, mI x4, mI x5] h = some ([mI 0], upM h 0 0 s) := fun s hs e => by
    rw [e] at ts
    rw [c_T_pour]
    refine cI_of (ts) ?_
    refine if_n (hs) ?_
    refine cI_of (c_T_deny xs d _ _) ?_
    refine if_y (by omega) ?_
    rfl
  have T0 : ∀ s, TrR (upM h 0 0 s) := fun s => T.st s
  by_cases q1 : 0 ≤ x1 ∧ x1 < 4
  rotate_left
  · refine QI.ans R 1 0 (no 1 (by omega) (by unfold pouS; rw [if_neg (by omega)])) ?_
    rw [c_M_pour]
    refine cI_of (m_isTray x1) ?_
    refine if_y (b2i_0.mpr q1) ?_
    refine cI_of (m_isNo (by omega)) ?_
    refine if_y (by omega) ?_
    rfl
  by_cases q3 : 0 ≤ x3 ∧ x3 < 4
  rotate_left
  · refine QI.ans R 1 0 (no 1 (by omega) (by unfold pouS; rw [if_neg (by omega)])) ?_
    rw [c_M_pour]
    refine cI_of (m_isTray x1) ?_
    refine if_n ((fun z => b2i_0.mp z q1)) ?_
    refine cI_of (m_isTray x3) ?_
    refine if_y (b2i_0.mpr q3) ?_
    refine cI_of (m_isNo (by omega)) ?_
    refine if_y (by omega) ?_
    rfl
  by_cases q245 : 0 ≤ x2 ∧ 0 ≤ x4 ∧ 0 ≤ x5
  rotate_left
  · refine QI.ans R 1 0 (no 1 (by omega) (by unfold pouS; rw [if_neg (by omega)])) ?_
    rw [c_M_pour]
    refine cI_of (m_isTray x1) ?_
    refine if_n ((fun z => b2i_0.mp z q1)) ?_
    refine cI_of (m_isTray x3) ?_
    refine if_n ((fun z => b2i_0.mp z q3)) ?_
    by_cases q2 : x2 < 0
    · rw [if_pos q2]
      refine cI_of (m_isNo (by omega)) ?_
      refine if_y (by omega) ?_
      rfl
    rw [if_neg q2]
    by_cases q4 : x4 < 0
    · rw [if_pos q4]
      refine cI_of (m_isNo (by omega)) ?_
      refine if_y (by omega) ?_
      rfl
    rw [if_neg q4]
    refine if_y (by omega) ?_
    refine cI_of (m_isNo (by omega)) ?_
    refine if_y (by omega) ?_
    rfl
  obtain ⟨q2, q4, q5⟩ := q245
  have cond : (0 ≤ x1 ∧ x1 < 4) ∧ (0 ≤ x3 ∧ x3 < 4) ∧ 0 ≤ x2 ∧ 0 ≤ x4 ∧ 0 ≤ x5 := ⟨q1, q3, q2, q4, q5⟩
  obtain ⟨a1, a2, a3, a4, a5⟩ := T.at' q1
  obtain ⟨b1, b2, b3, b4, b5⟩ := T.at' q3
  by_cases e1 : h 8 x1 = -1
  · refine QI.ans R 2 0 (no 2 (by omega) (by unfold pouS; rw [if_pos cond, if_pos (Or.inl e1)])) ?_
    rw [c_M_pour]
    refine cI_of (m_isTray x1) ?_
    refine if_n ((fun z => b2i_0.mp z q1)) ?_
    refine cI_of (m_isTray x3) ?_
    refine if_n ((fun z => b2i_0.mp z q3)) ?_
    refine if_n (by omega) ?_
    refine if_n (by omega) ?_
    refine if_n (by omega) ?_
    refine if_y (by omega) ?_
    rw [up_row (by omega), ← a2]
    refine if_y (e1) ?_
    refine cI_of (m_isNo (by omega)) ?_
    refine if_y (by omega) ?_
    rfl
  by_cases e3 : h 8 x3 = -1
  · refine QI.ans R 2 0 (no 2 (by omega) (by unfold pouS; rw [if_pos cond, if_pos (Or.inr e3)])) ?_
    rw [c_M_pour]
    refine cI_of (m_isTray x1) ?_
    refine if_n ((fun z => b2i_0.mp z q1)) ?_
    refine cI_of (m_isTray x3) ?_
    refine if_n ((fun z => b2i_0.mp z q3)) ?_
    refine if_n (by omega) ?_
    refine if_n (by omega) ?_
    refine if_n (by omega) ?_
    refine if_y (by omega) ?_
    rw [up_row (show (134 : Nat) ≠ 0 by omega), ← a2, ← b2]
    refine if_n (e1) ?_
    refine if_y (by omega) ?_
    refine if_y (e3) ?_
    refine cI_of (m_isNo (by omega)) ?_
    refine if_y (by omega) ?_
    rfl
  have e13 : ¬ (h 8 x1 = -1 ∨ h 8 x3 = -1) := fun z => z.elim e1 e3
  by_cases e7 : h 7 x1 = h 7 x3
  rotate_left
  · refine QI.ans R 8 0 (no 8 (by omega) (by unfold pouS; rw [if_pos cond, if_neg e13, if_neg e7])) ?_
    rw [c_M_pour]
    refine cI_of (m_isTray x1) ?_
    refine if_n ((fun z => b2i_0.mp z q1)) ?_
    refine cI_of (m_isTray x3) ?_
    refine if_n ((fun z => b2i_0.mp z q3)) ?_
    refine if_n (by omega) ?_
    refine if_n (by omega) ?_
    refine if_n (by omega) ?_
    refine if_y (by omega) ?_
    rw [up_row (show (134 : Nat) ≠ 0 by omega), up_row (show (133 : Nat) ≠ 0 by omega), ← a2, ← b2, ← a1, ← b1]
    refine if_n (e1) ?_
    refine if_y (by omega) ?_
    refine if_n (e3) ?_
    refine if_y (by omega) ?_
    refine if_y (by omega) ?_
    refine if_n (e7) ?_
    refine cI_of (m_isNo (by omega)) ?_
    refine if_y (by omega) ?_
    rfl
  by_cases l : x2 + x5 ≤ h 8 x1 ∧ x4 + x5 ≤ h 8 x3
  rotate_left
  · refine QI.ans R 3 0 (no 3 (by omega) (by unfold pouS; rw [if_pos cond, if_neg e13, if_pos e7, if_neg l])) ?_
    rw [c_M_pour]
    refine cI_of (m_isTray x1) ?_
    refine if_n ((fun z => b2i_0.mp z q1)) ?_
    refine cI_of (m_isTray x3) ?_
    refine if_n ((fun z => b2i_0.mp z q3)) ?_
    refine if_n (by omega) ?_
    refine if_n (by omega) ?_
    refine if_n (by omega) ?_
    refine if_y (by omega) ?_
    rw [up_row (show (134 : Nat) ≠ 0 by omega), up_row (show (133 : Nat) ≠ 0 by omega), ← a2, ← b2, ← a1, ← b1]
    refine if_n (e1) ?_
    refine if_y (by omega) ?_
    refine if_n (e3) ?_
    refine if_y (by omega) ?_
    refine if_y (by omega) ?_
    refine if_y (e7) ?_
    refine if_y (by omega) ?_
    refine if_y (by omega) ?_
    by_cases l1 : h 8 x1 - x2 < x5
    · rw [if_pos l1]
      refine cI_of (m_isNo (by omega)) ?_
      refine if_y (by omega) ?_
      rfl
    · rw [if_neg l1]
      refine if_y (by omega) ?_
      refine if_y (by omega) ?_
      refine if_y (by omega) ?_
      refine cI_of (m_isNo (by omega)) ?_
      refine if_y (by omega) ?_
      rfl
  have st0 : pouS h x1 x2 x3 x4 x5 = 0 := by unfold pouS; rw [if_pos cond, if_neg e13, if_pos e7, if_pos l]
  rw [st0] at ts
  obtain ⟨n, rfl⟩ : ∃ n : Nat, x5 = (n : Int) := ⟨x5.toNat, by omega⟩
  generalize hG : mCpy h (3 + x1.toNat) x2 (3 + x3.toNat) x4 (n : Int) = G
  have gr : ∀ a, a ≠ 3 + x3.toNat → G a = h a := fun a ha => by rw [← hG]; exact cpy_row ha
  have gx : ∀ k, G (3 + x3.toNat) k = if x4 ≤ k ∧ k < x4 + n then h (3 + x1.toNat) (x2 + (k - x4)) else h (3 + x3.toNat) k := fun k => by
    rw [← hG]
    unfold mCpy
    by_cases z : x4 ≤ k ∧ k < x4 + n
    · rw [if_pos ⟨rfl, z⟩, if_pos z]
    · rw [if_neg (fun y => z y.2), if_neg z]
  obtain ⟨F, f1, f2, f3⟩ := m_pours (xs := xs) (d := d) (n := n) q1 q3 q2 q4 (by omega) (by omega) (upM G 0 0 0)
  refine ⟨1, upM G 0 0 0, upM F 130 2 0, ?_, ?_, ?_⟩
  · rw [c_T_pour]
    refine cI_of (ts) ?_
    refine if_y (by omega) ?_
    refine cV_of (t_copyTr q1 q3 q2 q4 q5 (by omega) (by omega)) ?_
    rw [hG]
    refine cI_of (c_T_grant xs d _) ?_
    refine if_y (by omega) ?_
    rfl
  · rw [c_M_pour]
    refine cI_of (m_isTray x1) ?_
    refine if_n ((fun z => b2i_0.mp z q1)) ?_
    refine cI_of (m_isTray x3) ?_
    refine if_n ((fun z => b2i_0.mp z q3)) ?_
    refine if_n (by omega) ?_
    refine if_n (by omega) ?_
    refine if_n (by omega) ?_
    refine if_y (by omega) ?_
    rw [up_row (show (134 : Nat) ≠ 0 by omega), up_row (show (133 : Nat) ≠ 0 by omega), gr 134 (by omega), gr 133 (by omega), ← a2, ← b2, ← a1, ← b1]
    refine if_n (e1) ?_
    refine if_y (by omega) ?_
    refine if_n (e3) ?_
    refine if_y (by omega) ?_
    refine if_y (by omega) ?_
    refine if_y (e7) ?_
    refine if_y (by omega) ?_
    refine if_y (by omega) ?_
    refine if_n (by omega) ?_
    refine if_y (by omega) ?_
    refine if_y (by omega) ?_
    refine if_n (by omega) ?_
    exact f1
  · have fr : ∀ a, a ≠ 0 → a ≠ 130 → a ≠ 135 → upM F 130 2 0 a = G a := fun a z1 z2 z3 => by rw [up_row z2, f2 a z3, up_row z1]
    refine R.trays ?_ (fun a ha => by rw [fr a (by omega) (by omega) (by omega), gr a (by omega)]) (fun k hk => by rw [up_row (by omega), f2 0 (by omega), up_at, if_neg hk, gr 0 (by omega)]) (fun k hk => by rw [up_at, if_neg hk, f2 130 (by omega), up_row (by omega), gr 130 (by omega)]) (by rw [up_row (by omega), f2 0 (by omega), up_eq, up_eq])
    intro t ht
    rw [fr 7 (by omega) (by omega) (by omega), fr 8 (by omega) (by omega) (by omega), fr 133 (by omega) (by omega) (by omega), fr 134 (by omega) (by omega) (by omega), fr (3 + t) (by omega) (by omega) (by omega), gr 7 (by omega), gr 8 (by omega), gr 133 (by omega), gr 134 (by omega)]
    obtain ⟨c1, c2, c3, c4, c5⟩ := T t ht
    refine ⟨c1, c2, c3, c4, fun i i1 i2 => ?_⟩
    rw [up_row (show (135 : Nat) ≠ 130 by omega), f3, up_row (show (135 : Nat) ≠ 0 by omega), gr 135 (by omega)]
    by_cases e : t = x3.toNat
    · subst e
      rw [gx i]
      by_cases z : x4 ≤ i ∧ i < x4 + n
      · rw [if_pos z, if_pos (by omega)]
        have := a5 (x2 + (i - x4)) (by omega) (by omega)
        rw [show 60 * x1 + x2 + (60 * ((x3.toNat : Nat) : Int) + i - (60 * x3 + x4)) = 60 * x1 + (x2 + (i - x4)) by omega]
        exact this
      · rw [if_neg z, if_neg (by omega)]
        exact c5 i i1 i2
    · rw [gr (3 + t) (by omega), if_neg (by omega)]
      exact c5 i i1 i2
end
section
variable {xs : List Int} {d : Nat} {h : mM}
def byt (x j : Int) : Int := fI2b (fShr x (24 - 8 * j))
def apB (n x : Int) (f : Int → Int) : Int → Int := fun j => if n ≤ j ∧ j < n + 4 then byt x (j - n) else f j
theorem apB_eq {n x : Int} {f g : Int → Int} (e : ∀ i, 0 ≤ i → i < n → f i = g i ∧ inB (f i)) : ∀ i, 0 ≤ i → i < n + 4 → apB n x f i = apB n x g i ∧ inB (apB n x f i) := fun i h1 h2 => by
  unfold apB
  by_cases z : n ≤ i ∧ i < n + 4
  · rw [if_pos z, if_pos z]
    exact ⟨rfl, fI2b_bd _⟩
  · rw [if_neg z, if_neg z]
    exact e i h1 (by omega)
theorem up2 {h : mM} {a : Nat} {n : Int} {v0 v1 v2 v3 : Int} {x : Int} (e0 : v0 = byt x 0) (e1 : v1 = byt x 1) (e2 : v2 = byt x 2) (e3 : v3 = byt x 3) (j : Int) : (if j = n + 1 + 1 + 1 then v3 else if j = n + 1 + 1 then v2 else if j = n + 1 then v1 else if j = n then v0 else h a j) = apB n x (h a) j := by
  unfold apB
  by_cases z : n ≤ j ∧ j < n + 4
  · rw [if_pos z]
    by_cases a3 : j = n + 1 + 1 + 1
    · rw [if_pos a3, e3]; congr 1; omega
    rw [if_neg a3]
    by_cases a2 : j = n + 1 + 1
    · rw [if_pos a2, e2]; congr 1; omega
    rw [if_neg a2]
    by_cases a1 : j = n + 1
    · rw [if_pos a1, e1]; congr 1; omega
    rw [if_neg a1, if_pos (by omega), e0]; congr 1; omega
  · rw [if_neg z, if_neg (by omega), if_neg (by omega), if_neg (by omega), if_neg (by omega)]
theorem t_append {n : Int} (hn : 0 ≤ n ∧ n + 4 ≤ 900) (e : h 9 2 = n) (x : Int) : ∃ h', C xs d 298 0 [mR 9, mI x] h = some ([], h') ∧ h' 9 2 = n + 4 ∧ h' 10 = apB n x (h 10) ∧ (∀ a, a ≠ 9 → a ≠ 10 → h' a = h a) ∧ ∀ k, k ≠ 2 → h' 9 k = h 9 k := by
  rw [c_Tp_append]
  have st : ∀ (s m : Int) (g : mM), 0 ≤ s ∧ s ≤ 24 → 0 ≤ m ∧ m < 900 → g 9 2 = m → X xs d k_Tp_append 2 [mR 9, mI x, mI s] [] g = X xs d k_Tp_append 2 [mR 9, mI x, mI (s + (-8))] [] (upM (upM g 10 m (fI2b (fShr x s))) 9 2 (m + 1)) := by
    intro s m g h1 h2 h3
    rw [e_Tp_append_2, h3]
    refine if_n (by omega) ?_
    refine if_y (by omega) ?_
    refine if_y (by omega) ?_
    refine if_y (fI2b_bd _) ?_
    refine if_y (by omega) ?_
    refine if_y (by omega) ?_
    rfl
  refine ⟨upM (upM (upM (upM (upM (upM (upM (upM h 10 n (fI2b (fShr x 24))) 9 2 (n + 1)) 10 (n + 1) (fI2b (fShr x 16))) 9 2 (n + 1 + 1)) 10 (n + 1 + 1) (fI2b (fShr x 8))) 9 2 (n + 1 + 1 + 1)) 10 (n + 1 + 1 + 1) (fI2b (fShr x 0))) 9 2 (n + 1 + 1 + 1 + 1), ?_, ?_, ?_, ?_, ?_⟩
  · refine (st 24 n h (by omega) (by omega) e).trans ?_
    refine (st 16 (n + 1) _ (by omega) (by omega) up_eq).trans ?_
    refine (st 8 (n + 1 + 1) _ (by omega) (by omega) up_eq).trans ?_
    refine (st 0 (n + 1 + 1 + 1) _ (by omega) (by omega) up_eq).trans ?_
    rw [e_Tp_append_2]
    exact if_pos (by omega)
  · rw [up_eq]
    omega
  · funext j
    rw [up_row (by omega), up_at, up_row (by omega), up_at, up_row (by omega), up_at, up_row (by omega), up_at]
    exact up2 rfl rfl rfl rfl j
  · intro a h1 h2
    rw [up_row h1, up_row h2, up_row h1, up_row h2, up_row h1, up_row h2, up_row h1, up_row h2]
  · intro k hk
    rw [up_at, if_neg hk, up_row (by omega), up_at, if_neg hk, up_row (by omega), up_at, if_neg hk, up_row (by omega), up_at, if_neg hk, up_row (by omega)]
theorem m_four {n : Int} (hn : 0 ≤ n ∧ n + 4 ≤ 900) (e : h 130 10 = n) (x : Int) : ∃ h', C xs d 94 0 [mR 130, mI x] h = some ([], h') ∧ h' 130 10 = n + 4 ∧ h' 136 = apB n x (h 136) ∧ (∀ a, a ≠ 130 → a ≠ 136 → h' a = h a) ∧ ∀ k, k ≠ 10 → h' 130 k = h 130 k := by
  rw [c_M_four]
  have st : ∀ (s m : Int) (g : mM), 0 ≤ s ∧ s ≤ 24 → 0 ≤ m ∧ m < 900 → g 130 10 = m → X xs d k_M_four 2 [mR 130, mI x, mI s] [] g = X xs d k_M_four 2 [mR 130, mI x, mI (s + (-8))] [] (upM (upM g 136 m (fI2b (fShr x s))) 130 10 (m + 1)) := by
    intro s m g h1 h2 h3
    rw [e_M_four_2, h3]
    refine if_n (by omega) ?_
    refine if_y (by omega) ?_
    refine if_y (fI2b_bd _) ?_
    refine if_y (by omega) ?_
    refine if_y (by omega) ?_
    rfl
  refine ⟨upM (upM (upM (upM (upM (upM (upM (upM h 136 n (fI2b (fShr x 24))) 130 10 (n + 1)) 136 (n + 1) (fI2b (fShr x 16))) 130 10 (n + 1 + 1)) 136 (n + 1 + 1) (fI2b (fShr x 8))) 130 10 (n + 1 + 1 + 1)) 136 (n + 1 + 1 + 1) (fI2b (fShr x 0))) 130 10 (n + 1 + 1 + 1 + 1), ?_, ?_, ?_, ?_, ?_⟩
  · refine (st 24 n h (by omega) (by omega) e).trans ?_
    refine (st 16 (n + 1) _ (by omega) (by omega) up_eq).trans ?_
    refine (st 8 (n + 1 + 1) _ (by omega) (by omega) up_eq).trans ?_
    refine (st 0 (n + 1 + 1 + 1) _ (by omega) (by omega) up_eq).trans ?_
    rw [e_M_four_2]
    exact if_pos (by omega)
  · rw [up_eq]
    omega
  · funext j
    rw [up_row (by omega), up_at, up_row (by omega), up_at, up_row (by omega), up_at, up_row (by omega), up_at]
    exact up2 rfl rfl rfl rfl j
  · intro a h1 h2
    rw [up_row h1, up_row h2, up_row h1, up_row h2, up_row h1, up_row h2, up_row h1, up_row h2]
  · intro k hk
    rw [up_at, if_neg hk, up_row (by omega), up_at, if_neg hk, up_row (by omega), up_at, if_neg hk, up_row (by omega), up_at, if_neg hk, up_row (by omega)]
theorem q_feed (R : Rel h) (x1 x2 x3 x4 x5 : Int) : QI xs d h 11 93 [mI x1, mI x2, mI x3, mI x4, mI x5] := by
  obtain ⟨p1, p2, p3⟩ := R.2.2.2.1
  by_cases q : h 9 2 + 20 ≤ 900
  rotate_left
  · refine ⟨-1, h, h, ?_, ?_, R⟩
    · rw [c_T_feed]
      have e : C xs d 297 0 [mR 9, mI 20] h = some ([mI 0], h) := by
        rw [c_Tp_hasRoom]
        refine if_y (by omega) ?_
        refine if_y (by omega) ?_
        rfl
      refine cI_of (e) ?_
      refine if_y (by omega) ?_
      rfl
    · rw [c_M_feed, ← p1]
      refine if_y (by omega) ?_
      refine if_y (by omega) ?_
      rfl
  generalize hn : h 9 2 = n at p1 p2 p3 q
  obtain ⟨g1, a1, b1, c1, d1, e1⟩ := t_append (xs := xs) (d := d) (n := n) (by omega) hn x1
  obtain ⟨g2, a2, b2, c2, d2, e2⟩ := t_append (xs := xs) (d := d) (n := n + 4) (by omega) b1 x2
  obtain ⟨g3, a3, b3, c3, d3, e3⟩ := t_append (xs := xs) (d := d) (n := n + 4 + 4) (by omega) b2 x3
  obtain ⟨g4, a4, b4, c4, d4, e4⟩ := t_append (xs := xs) (d := d) (n := n + 4 + 4 + 4) (by omega) b3 x4
  obtain ⟨g5, a5, b5, c5, d5, e5⟩ := t_append (xs := xs) (d := d) (n := n + 4 + 4 + 4 + 4) (by omega) b4 x5
  have dT : ∀ a, a ≠ 9 → a ≠ 10 → g5 a = h a := fun a z1 z2 => by rw [d5 a z1 z2, d4 a z1 z2, d3 a z1 z2, d2 a z1 z2, d1 a z1 z2]
  have eT : ∀ k, k ≠ 2 → g5 9 k = h 9 k := fun k z => by rw [e5 k z, e4 k z, e3 k z, e2 k z, e1 k z]
  have m0 : g5 130 10 = n := by rw [dT 130 (by omega) (by omega)]; exact p1.symm
  obtain ⟨f1, u1, v1, w1, y1, z1⟩ := m_four (xs := xs) (d := d) (n := n) (by omega) m0 x1
  obtain ⟨f2, u2, v2, w2, y2, z2⟩ := m_four (xs := xs) (d := d) (n := n + 4) (by omega) v1 x2
  obtain ⟨f3, u3, v3, w3, y3, z3⟩ := m_four (xs := xs) (d := d) (n := n + 4 + 4) (by omega) v2 x3
  obtain ⟨f4, u4, v4, w4, y4, z4⟩ := m_four (xs := xs) (d := d) (n := n + 4 + 4 + 4) (by omega) v3 x4
  obtain ⟨f5, u5, v5, w5, y5, z5⟩ := m_four (xs := xs) (d := d) (n := n + 4 + 4 + 4 + 4) (by omega) v4 x5
  have yT : ∀ a, a ≠ 130 → a ≠ 136 → f5 a = g5 a := fun a t1 t2 => by rw [y5 a t1 t2, y4 a t1 t2, y3 a t1 t2, y2 a t1 t2, y1 a t1 t2]
  have zT : ∀ k, k ≠ 10 → f5 130 k = g5 130 k := fun k t => by rw [z5 k t, z4 k t, z3 k t, z2 k t, z1 k t]
  refine ⟨n + 4 + 4 + 4 + 4 + 4, g5, f5, ?_, ?_, ?_⟩
  · rw [c_T_feed]
    have e : C xs d 297 0 [mR 9, mI 20] h = some ([mI 1], h) := by
      rw [c_Tp_hasRoom, hn]
      refine if_y (by omega) ?_
      refine if_n (by omega) ?_
      rfl
    refine cI_of (e) ?_
    refine if_n (by omega) ?_
    refine cV_of (a1) ?_
    refine cV_of (a2) ?_
    refine cV_of (a3) ?_
    refine cV_of (a4) ?_
    refine cV_of (a5) ?_
    refine cI_of (c_Tp_length xs d g5) ?_
    rw [b5]
  · rw [c_M_feed, m0]
    refine if_y (by omega) ?_
    refine if_n (by omega) ?_
    refine cV_of (u1) ?_
    refine cV_of (u2) ?_
    refine cV_of (u3) ?_
    refine cV_of (u4) ?_
    refine cV_of (u5) ?_
    rw [v5]
  · have f9 : f5 9 = g5 9 := yT 9 (by omega) (by omega)
    have o : ∀ a, a ≠ 9 → a ≠ 10 → a ≠ 130 → a ≠ 136 → f5 a = h a := fun a t1 t2 t3 t4 => by rw [yT a t3 t4, dT a t1 t2]
    have o1 : ∀ k, k ≠ 10 → f5 130 k = h 130 k := fun k t => by rw [zT k t, dT 130 (by omega) (by omega)]
    refine R.loc (fun a z => o a (by have := kN z; omega) (by have := kN z; omega) (by have := kN z; omega) (by have := kN z; omega)) (fun k _ _ => by rw [o 131 (by omega) (by omega) (by omega) (by omega)]) ?_ ?_ ?_ ?_ ?_ ?_ (o1 44 (by omega)) (o1 45 (by omega))
    · rw [o 0 (by omega) (by omega) (by omega) (by omega), o1 2 (by omega)]
      exact R.1
    · rw [o 0 (by omega) (by omega) (by omega) (by omega), o1 3 (by omega), o1 4 (by omega)]
      exact R.2.1
    · intro t ht
      rw [o 7 (by omega) (by omega) (by omega) (by omega), o 8 (by omega) (by omega) (by omega) (by omega), o 133 (by omega) (by omega) (by omega) (by omega), o 134 (by omega) (by omega) (by omega) (by omega), o 135 (by omega) (by omega) (by omega) (by omega), o (3 + t) (by omega) (by omega) (by omega) (by omega)]
      exact R.tp t ht
    · rw [f9, b5, v5]
      refine ⟨rfl, by omega, fun i h1 h2 => ?_⟩
      rw [yT 10 (by omega) (by omega), w5, w4, w3, w2, w1, c5, c4, c3, c2, c1, dT 136 (by omega) (by omega)]
      exact apB_eq (apB_eq (apB_eq (apB_eq (apB_eq p3)))) i h1 h2
    · rw [f9, eT 11 (by omega), eT 12 (by omega), o1 16 (by omega), o1 17 (by omega)]
      exact R.2.2.2.2.1
    · rw [o 0 (by omega) (by omega) (by omega) (by omega)]
theorem q_copyWarmth (R : Rel h) (x : Int) : QI xs d h 61 209 [mI x] := by
  have T := R.tp
  obtain ⟨c, k⟩ := R.co
  have kT := k.1
  have kM := CoM.z.mp k.2.1
  have w := k.2.2.1
  have hn := w.1
  by_cases q1 : 0 ≤ x ∧ x < 4
  rotate_left
  · refine QI.ans R 1 (-1) ?_ ?_
    · rw [c_T_copyWarmth]
      refine cI_of (t_isTray x) ?_
      refine if_y (b2i_0.mpr q1) ?_
      refine cI_of (c_T_refuse xs d _ _) ?_
      rfl
    · rw [c_M_copyWarmth]
      refine cI_of (m_isTray x) ?_
      refine if_y (b2i_0.mpr q1) ?_
      refine cI_of (c_M_refuse xs d _ _) ?_
      rfl
  obtain ⟨a1, a2, a3, a4, a5⟩ := T.at' q1
  by_cases q2 : h 8 x = -1
  · refine QI.ans R 2 (-1) ?_ ?_
    · rw [c_T_copyWarmth]
      refine cI_of (t_isTray x) ?_
      refine if_n ((fun z => b2i_0.mp z q1)) ?_
      refine cI_of (t_isMissing q1) ?_
      refine if_n ((fun z => b2i_0.mp z q2)) ?_
      refine cI_of (c_T_refuse xs d _ _) ?_
      rfl
    · rw [c_M_copyWarmth]
      refine cI_of (m_isTray x) ?_
      refine if_n ((fun z => b2i_0.mp z q1)) ?_
      refine if_y (by omega) ?_
      rw [up_row (show (134 : Nat) ≠ 0 by omega), ← a2]
      refine if_y (q2) ?_
      refine cI_of (c_M_refuse xs d _ _) ?_
      rfl
  by_cases q3 : c 0 0 ≤ h 8 x
  rotate_left
  · refine QI.ans R 3 (-1) ?_ ?_
    · rw [c_T_copyWarmth]
      refine cI_of (t_isTray x) ?_
      refine if_n ((fun z => b2i_0.mp z q1)) ?_
      refine cI_of (t_isMissing q1) ?_
      refine if_y (b2i_0.mpr q2) ?_
      rw [kT.n]
      refine cI_of (t_hasPl q1 (by omega)) ?_
      refine if_y (b2i_0.mpr (by omega)) ?_
      refine cI_of (c_T_refuse xs d _ _) ?_
      rfl
    · rw [c_M_copyWarmth]
      refine cI_of (m_isTray x) ?_
      refine if_n ((fun z => b2i_0.mp z q1)) ?_
      refine if_y (by omega) ?_
      rw [up_row (show (134 : Nat) ≠ 0 by omega), ← a2]
      refine if_n (q2) ?_
      refine if_y (by omega) ?_
      rw [up_row (show (131 : Nat) ≠ 0 by omega), kM.n]
      refine if_y (by omega) ?_
      refine cI_of (c_M_refuse xs d _ _) ?_
      rfl
  have st : ∀ i : Nat, i < (c 0 0).toNat → X xs d k_T_copyWarmth 33 [mR 0, mI x, mI (i : Int)] [] (rowU h (3 + x.toNat) (i : Int) (fun p => cutS (h 7 x) (c 5 p))) = X xs d k_T_copyWarmth 33 [mR 0, mI x, mI ((i + 1 : Nat) : Int)] [] (rowU h (3 + x.toNat) ((i + 1 : Nat) : Int) (fun p => cutS (h 7 x) (c 5 p))) := by
    intro i hi
    rw [e_T_copyWarmth_33, rowU_ne (show (12 : Nat) ≠ 3 + x.toNat by omega), rowU_ne (show (16 : Nat) ≠ 3 + x.toNat by omega), kT.n]
    refine if_y (by omega) ?_
    refine if_y (by omega) ?_
    refine cV_of (t_put q1 (by omega)) ?_
    refine if_y (by omega) ?_
    rw [rowU_ne (show (7 : Nat) ≠ 3 + x.toNat by omega), show h 16 (i : Int) = c 5 i from kT.w _ (by omega) (by omega), rowU_up (by omega) rfl]
    rfl
  generalize hg : rowU h (3 + x.toNat) (((c 0 0).toNat : Nat) : Int) (fun p => cutS (h 7 x) (c 5 p)) = g at *
  have gr : ∀ a, a ≠ 3 + x.toNat → g a = h a := fun a ha => by rw [← hg]; exact rowU_ne ha
  have gx : ∀ i, 0 ≤ i → i < c 0 0 → g (3 + x.toNat) i = cutS (h 7 x) (c 5 i) := fun i h1 h2 => by rw [← hg, rowU_in (by omega)]
  have gy : ∀ i, c 0 0 ≤ i → g (3 + x.toNat) i = h (3 + x.toNat) i := fun i h1 => by rw [← hg, rowU_out (by omega)]
  have tl : X xs d k_T_copyWarmth 33 [mR 0, mI x, mI 0] [] h = some ([mI (c 0 0)], upM g 0 0 0) := by
    refine (congrArg (fun g => X xs d k_T_copyWarmth 33 [mR 0, mI x, mI 0] [] g) (rowU_0 (h := h) (a := 3 + x.toNat) (f := fun p => cutS (h 7 x) (c 5 p))).symm).trans ?_
    refine (run_to (fun i : Nat => X xs d k_T_copyWarmth 33 [mR 0, mI x, mI (i : Int)] [] (rowU h (3 + x.toNat) (i : Int) (fun p => cutS (h 7 x) (c 5 p)))) st).trans ?_
    rw [hg, e_T_copyWarmth_33, gr 12 (by omega), kT.n, if_neg (by omega)]
    refine cI_of (c_T_answer xs d _ _) ?_
    rfl
  have kM1 : CoM c (upM g 0 0 0) := kM.mv (by rw [up_row (by omega), gr 131 (by omega)])
  have u133 : upM g 0 0 0 133 x = h 7 x := by rw [up_row (by omega), gr 133 (by omega), a1]
  have st2 : ∀ i : Nat, i < (c 0 0).toNat → X xs d k_M_copyWarmth 32 [mR 130, mI x, mI (i : Int)] [] (rowW (upM g 0 0 0) 135 (60 * x) (i : Int) (fun p => cutS (h 7 x) (c 5 (p - 60 * x)))) = X xs d k_M_copyWarmth 32 [mR 130, mI x, mI ((i + 1 : Nat) : Int)] [] (rowW (upM g 0 0 0) 135 (60 * x) ((i + 1 : Nat) : Int) (fun p => cutS (h 7 x) (c 5 (p - 60 * x)))) := by
    intro i hi
    rw [e_M_copyWarmth_32, rowW_ne (show (131 : Nat) ≠ 135 by omega), kM1.n]
    refine if_y (by omega) ?_
    refine if_y (by omega) ?_
    refine if_y (by omega) ?_
    refine cI_of (m_personOf (by omega) (by omega)) ?_
    refine if_y (by omega) ?_
    rw [rowW_ne (show (131 : Nat) ≠ 135 by omega), kM1.w _ (by omega) (by omega), rowW_ne (show (133 : Nat) ≠ 135 by omega), u133]
    refine cL_of (m_shrunk _ _) ?_
    refine if_y (by omega) ?_
    refine if_y (by omega) ?_
    rw [rowW_up (by omega) (by show _ = cutS (h 7 x) (c 5 (60 * x + (i : Int) - 60 * x)); congr 2; omega)]
    rfl
  refine ⟨c 0 0, upM g 0 0 0, upM (rowW (upM g 0 0 0) 135 (60 * x) (((c 0 0).toNat : Nat) : Int) (fun p => cutS (h 7 x) (c 5 (p - 60 * x)))) 130 2 0, ?_, ?_, ?_⟩
  · rw [c_T_copyWarmth]
    refine cI_of (t_isTray x) ?_
    refine if_n ((fun z => b2i_0.mp z q1)) ?_
    refine cI_of (t_isMissing q1) ?_
    refine if_y (b2i_0.mpr q2) ?_
    rw [kT.n]
    refine cI_of (t_hasPl q1 (by omega)) ?_
    refine if_n ((fun z => b2i_0.mp z (by omega))) ?_
    exact tl
  · rw [c_M_copyWarmth]
    refine cI_of (m_isTray x) ?_
    refine if_n ((fun z => b2i_0.mp z q1)) ?_
    refine if_y (by omega) ?_
    rw [up_row (show (134 : Nat) ≠ 0 by omega), gr 134 (by omega), ← a2]
    refine if_n (q2) ?_
    refine if_y (by omega) ?_
    rw [kM1.n]
    refine if_n (by omega) ?_
    refine (congrArg (fun g => X xs d k_M_copyWarmth 32 [mR 130, mI x, mI 0] [] g) (rowW_0 (h := upM g 0 0 0) (a := 135) (lo := 60 * x) (f := fun p => cutS (h 7 x) (c 5 (p - 60 * x)))).symm).trans ?_
    refine (run_to (fun i : Nat => X xs d k_M_copyWarmth 32 [mR 130, mI x, mI (i : Int)] [] (rowW (upM g 0 0 0) 135 (60 * x) (i : Int) (fun p => cutS (h 7 x) (c 5 (p - 60 * x))))) st2).trans ?_
    rw [e_M_copyWarmth_32, rowW_ne (show (131 : Nat) ≠ 135 by omega), kM1.n, if_neg (by omega)]
    refine cI_of (c_M_gives xs d _ _) ?_
    rfl
  · generalize hF : upM (rowW (upM g 0 0 0) 135 (60 * x) (((c 0 0).toNat : Nat) : Int) (fun p => cutS (h 7 x) (c 5 (p - 60 * x)))) 130 2 0 = F
    have fr : ∀ a, a ≠ 0 → a ≠ 130 → a ≠ 135 → F a = g a := fun a h1 h2 h3 => by rw [← hF, up_row h2, rowW_ne h3, up_row h1]
    have f1 : ∀ k, 60 * x ≤ k ∧ k < 60 * x + c 0 0 → F 135 k = cutS (h 7 x) (c 5 (k - 60 * x)) := fun k hk => by rw [← hF, up_row (by omega), rowW_in (by omega)]
    have f2 : ∀ k, ¬ (60 * x ≤ k ∧ k < 60 * x + c 0 0) → F 135 k = h 135 k := fun k hk => by rw [← hF, up_row (by omega), rowW_out (by omega), up_row (by omega), gr 135 (by omega)]
    refine R.trays ?_ (fun a ha => by rw [fr a (by omega) (by omega) (by omega), gr a (by omega)]) (fun k hk => by rw [← hF, up_row (by omega), rowW_ne (by omega), up_at, if_neg hk, gr 0 (by omega)]) (fun k hk => by rw [← hF, up_at, if_neg hk, rowW_ne (by omega), up_row (by omega), gr 130 (by omega)]) (by rw [← hF, up_row (by omega), rowW_ne (by omega), up_eq, up_eq])
    intro t ht
    rw [fr 7 (by omega) (by omega) (by omega), fr 8 (by omega) (by omega) (by omega), fr 133 (by omega) (by omega) (by omega), fr 134 (by omega) (by omega) (by omega), fr (3 + t) (by omega) (by omega) (by omega), gr 7 (by omega), gr 8 (by omega), gr 133 (by omega), gr 134 (by omega)]
    obtain ⟨c1, c2, c3, c4, c5⟩ := T t ht
    refine ⟨c1, c2, c3, c4, fun i i1 i2 => ?_⟩
    by_cases e : t = x.toNat
    · subst e
      by_cases z : i < c 0 0
      · rw [gx i i1 z, f1 _ (by omega), show 60 * ((x.toNat : Nat) : Int) + i - 60 * x = i by omega]
        have := (w.2.2.2.2.2.2.2.2 i i1 z).2.2.1
        exact ⟨rfl, cutS_bd (by omega)⟩
      · rw [gy i (by omega), f2 _ (by omega)]
        exact c5 i i1 i2
    · rw [gr (3 + t) (by omega), f2 _ (by omega)]
      exact c5 i i1 i2
end
