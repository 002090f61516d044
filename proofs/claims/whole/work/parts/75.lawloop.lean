/-! the law's loop: it comes to its end and answers 1 -/
theorem ite_P {α : Type} {P : α → Prop} {c : Prop} [Decidable c] {a b : α} (ha : P a) (hb : P b) : P (if c then a else b) := by
  by_cases q : c
  · rw [if_pos q]; exact ha
  · rw [if_neg q]; exact hb
abbrev Ans (o : Option (List mv × mM)) : Prop := ∃ h', o = some ([mI 1], h')
theorem law_loop {xs : List Int} {d : Nat} (hl : xs.length ≤ 3072) (hv : ∀ v ∈ xs, inI v) : ∀ (k : Nat) (x : Int) (h : mM), Rel h → 0 ≤ x → (xs.length : Int) - x < k → -6 ≤ (xs.length : Int) - x → Ans (X xs (d + 4) k_L_law 10 [mC 1, mR 0, mR 130, mI x] [] h) := by
  have hc : (CT xs 1).length = xs.length := rfl
  intro k
  induction k with
  | zero =>
    intro x h R hx hk hm
    have hk : (xs.length : Int) - x < 0 := hk
    rw [e_L_law_10, if_pos (show inI (((CT xs 1).length : Int) - 6) from ⟨by omega, by omega⟩), if_pos (show (((CT xs 1).length : Int) - 6) < x by omega)]
    exact ⟨_, rfl⟩
  | succ k ih =>
    intro x h R hx hk hm
    rw [e_L_law_10, if_pos (show inI (((CT xs 1).length : Int) - 6) from ⟨by omega, by omega⟩)]
    by_cases q : ((xs.length : Int) - 6) < x
    · rw [if_pos (show (((CT xs 1).length : Int) - 6) < x from q)]
      exact ⟨_, rfl⟩
    · rw [if_neg (show ¬ (((CT xs 1).length : Int) - 6) < x from q), if_pos (show inA x (CT xs 1).length from ⟨hx, by omega⟩)]
      have G : Lg xs x := ⟨hx, by omega, hl, hv⟩
      have key : ∀ j, Wk xs d x h j → Ans (X xs (d + 4) k_L_law j [mC 1, mR 0, mR 130, mI x] [] h) := by
        rintro j ⟨h', R', e⟩
        rw [e, e_L_law_1227, if_pos (show inI (x + 6) from ⟨by omega, by omega⟩)]
        exact ih (x + 6) h' R' (by omega) (by omega) (by omega)
      refine ite_P (P := Ans) (key _ (w_22 R G)) ?_
      refine ite_P (P := Ans) (key _ (w_29 R G)) ?_
      refine ite_P (P := Ans) (key _ (w_37 R G)) ?_
      refine ite_P (P := Ans) (key _ (w_45 R G)) ?_
      refine ite_P (P := Ans) (key _ (w_82 R G)) ?_
      refine ite_P (P := Ans) (key _ (w_143 R G)) ?_
      refine ite_P (P := Ans) (key _ (w_171 R G)) ?_
      refine ite_P (P := Ans) (key _ (w_228 R G)) ?_
      refine ite_P (P := Ans) (key _ (w_285 R G)) ?_
      refine ite_P (P := Ans) (key _ (w_302 R G)) ?_
      refine ite_P (P := Ans) (key _ (w_319 R G)) ?_
      refine ite_P (P := Ans) (key _ (w_336 R G)) ?_
      refine ite_P (P := Ans) (key _ (w_353 R G)) ?_
      refine ite_P (P := Ans) (key _ (w_380 R G)) ?_
      refine ite_P (P := Ans) (key _ (w_407 R G)) ?_
      refine ite_P (P := Ans) (key _ (w_424 R G)) ?_
      refine ite_P (P := Ans) (key _ (w_441 R G)) ?_
      refine ite_P (P := Ans) (key _ (w_448 R G)) ?_
      refine ite_P (P := Ans) (key _ (w_475 R G)) ?_
      refine ite_P (P := Ans) (key _ (w_502 R G)) ?_
      refine ite_P (P := Ans) (key _ (w_529 R G)) ?_
      refine ite_P (P := Ans) (key _ (w_556 R G)) ?_
      refine ite_P (P := Ans) (key _ (w_573 R G)) ?_
      refine ite_P (P := Ans) (key _ (w_600 R G)) ?_
      refine ite_P (P := Ans) (key _ (w_627 R G)) ?_
      refine ite_P (P := Ans) (key _ (w_644 R G)) ?_
      refine ite_P (P := Ans) (key _ (w_671 R G)) ?_
      refine ite_P (P := Ans) (key _ (w_688 R G)) ?_
      refine ite_P (P := Ans) (key _ (w_695 R G)) ?_
      refine ite_P (P := Ans) (key _ (w_702 R G)) ?_
      refine ite_P (P := Ans) (key _ (w_719 R G)) ?_
      refine ite_P (P := Ans) (key _ (w_746 R G)) ?_
      refine ite_P (P := Ans) (key _ (w_753 R G)) ?_
      refine ite_P (P := Ans) (key _ (w_760 R G)) ?_
      refine ite_P (P := Ans) (key _ (w_777 R G)) ?_
      refine ite_P (P := Ans) (key _ (w_794 R G)) ?_
      refine ite_P (P := Ans) (key _ (w_811 R G)) ?_
      refine ite_P (P := Ans) (key _ (w_828 R G)) ?_
      refine ite_P (P := Ans) (key _ (w_855 R G)) ?_
      refine ite_P (P := Ans) (key _ (w_892 R G)) ?_
      refine ite_P (P := Ans) (key _ (w_939 R G)) ?_
      refine ite_P (P := Ans) (key _ (w_966 R G)) ?_
      refine ite_P (P := Ans) (key _ (w_993 R G)) ?_
      refine ite_P (P := Ans) (key _ (w_1030 R G)) ?_
      refine ite_P (P := Ans) (key _ (w_1067 R G)) ?_
      refine ite_P (P := Ans) (key _ (w_1084 R G)) ?_
      refine ite_P (P := Ans) (key _ (w_1101 R G)) ?_
      refine ite_P (P := Ans) (key _ (w_1118 R G)) ?_
      refine ite_P (P := Ans) (key _ (w_1135 R G)) ?_
      refine ite_P (P := Ans) (key _ (w_1152 R G)) ?_
      refine ite_P (P := Ans) (key _ (w_1169 R G)) ?_
      refine ite_P (P := Ans) (key _ (w_1186 R G)) ?_
      refine ite_P (P := Ans) (key _ (w_1213 R G)) ?_
      refine ite_P (P := Ans) (key _ (w_1220 R G)) ?_
      exact key _ ⟨h, R, rfl⟩
