/-! the start: what the constructors leave -/
def sk (k : Nat) : mSh := List.take k S0
def Fin (xs : List Int) (d : Nat) (c : mCode) (j : Nat) (ls st : List mv) (g : mH) (r : List mv × mH) : Prop := ∃ n0, ∀ n, n0 ≤ n → exR PP (CT xs) n d c j ls st g = some r
section
variable {xs : List Int} {d : Nat} {c : mCode} {j : Nat} {ls st : List mv} {g : mH} {r : List mv × mH}
theorem fin_seg {N j' : Nat} {ls' st' : List mv} {g' : mH} (h : ∀ m, exR PP (CT xs) (m + N) d c j ls st g = exR PP (CT xs) m d c j' ls' st' g') (k : Fin xs d c j' ls' st' g' r) : Fin xs d c j ls st g r := by
  obtain ⟨n0, k⟩ := k
  refine ⟨n0 + N, fun n hn => ?_⟩
  obtain ⟨m, rfl⟩ : ∃ m, n = m + N := ⟨n - N, by omega⟩
  rw [h m]
  exact k m (by omega)
theorem fin_end {N : Nat} (h : ∀ m, exR PP (CT xs) (m + N) d c j ls st g = some r) : Fin xs d c j ls st g r := by
  refine ⟨N, fun n hn => ?_⟩
  obtain ⟨m, rfl⟩ : ∃ m, n = m + N := ⟨n - N, by omega⟩
  exact h m
theorem fin_call {id j' na w rc : Nat} {args rest L : List mv} {cc : mCode} {nl : Nat} {g' : mH} (hi : nth c j = some (.invokestatic id, j', [na, 0, 0, w, rc])) (hp : PP id = (cc, nl)) (ht : mTake na [] st = some (args, rest)) (hw : (Nat.ble (wds args) w).and (rcv g.1 rc args) = true) (hf : Nat.ble (wds rest) 8 = true) (hL : mPad nl (mEntry args) = L) (h1 : Fin xs d cc 0 L [] g ([], g')) (h2 : Fin xs d c j' ls rest g' r) : Fin xs d c j ls st g r := by
  obtain ⟨n1, h1⟩ := h1
  obtain ⟨n2, h2⟩ := h2
  refine ⟨max n1 n2 + 1, fun n hn => ?_⟩
  obtain ⟨q, rfl⟩ : ∃ q, n = q + 1 := ⟨n - 1, by omega⟩
  have e : clR PP (CT xs) q d id 0 args g = some ([], g') := by
    show exR PP (CT xs) q d (PP id).1 0 (mPad (PP id).2 (mEntry args)) [] g = _
    rw [hp]
    show exR PP (CT xs) q d cc 0 (mPad nl (mEntry args)) [] g = _
    rw [hL]
    exact h1 q (by omega)
  rw [exR_succ, hi]
  unfold ex2
  dsimp only
  rw [ht]
  dsimp only
  rw [hw]
  dsimp only
  unfold few
  rw [hf]
  dsimp only
  rw [e]
  dsimp only
  exact h2 q (by omega)
end
def rk_0 : mRf := []
def rk_1 : mRf := (rk_0 ++ [List.replicate 19 none])
set_option maxRecDepth 100000 in
theorem sg_1 (xs : List Int) (m d : Nat) (h : mM) : exR PP (CT xs) (m + 2) d k_L_law 0 [mC 1, mC 0, mC 0, mC 0] [] (sk 0, rk_0, h) = exR PP (CT xs) m d k_L_law 2 [mC 1, mC 0, mC 0, mC 0] [mR 0, mR 0] (sk 1, rk_1, h) := rfl
def rk_2 : mRf := (rk_1 ++ [List.replicate 3 none])
def hg_2 (h : mM) : mM := (upM (upM (upM (upM h 0 0 0) 0 1 0) 0 2 1) 0 3 0)
set_option maxRecDepth 100000 in
theorem sg_2 (xs : List Int) (m d : Nat) (h : mM) : exR PP (CT xs) (m + 17) d k_T_init 0 [mR 0] [] (sk 1, rk_1, h) = exR PP (CT xs) m d k_T_init 17 [mR 0] [mR 1, mR 1, mR 0] (sk 2, rk_2, hg_2 h) := rfl
def rk_3 : mRf := (rset ((rset ((rset (rk_2 ++ [[some 3, some 4, some 5, some 6], [], [], [], []]) 1 0 2) ++ [[]]) 1 1 7) ++ [[]]) 1 2 8)
def hg_3 (h : mM) : mM := (upM (upM (upM (upM h 8 0 (-1)) 8 1 (-1)) 8 2 (-1)) 8 3 (-1))
set_option maxRecDepth 100000 in
theorem sg_3 (xs : List Int) (m d : Nat) (h : mM) : exR PP (CT xs) (m + 32) d k_Tr_init 0 [mR 1] [] (sk 2, rk_2, h) = some ([], (sk 9, rk_3, hg_3 h)) := rfl
def mk_2 (h : mM) : mM := (hg_3 h)
theorem i_2 (xs : List Int) (d : Nat) (h : mM) : Fin xs d k_Tr_init 0 [mR 1] [] (sk 2, rk_2, h) ([], (sk 9, rk_3, mk_2 h)) := fin_end (fun m => sg_3 xs m d _)
def rk_4 : mRf := ((rset rk_3 0 4 1) ++ [List.replicate 13 none])
set_option maxRecDepth 100000 in
theorem sg_4 (xs : List Int) (m d : Nat) (h : mM) : exR PP (CT xs) (m + 4) d k_T_init 18 [mR 0] [mR 1, mR 0] (sk 9, rk_3, h) = exR PP (CT xs) m d k_T_init 22 [mR 0] [mR 9, mR 9, mR 0] (sk 10, rk_4, h) := rfl
def rk_5 : mRf := (rset ((rset (rk_4 ++ [[]]) 9 0 10) ++ [[]]) 9 1 11)
def hg_5 (h : mM) : mM := (upM (upM (upM (upM (upM (upM (upM (upM (upM (upM (upM h 9 2 0) 9 3 0) 9 4 0) 9 5 0) 9 6 0) 9 7 0) 9 8 0) 9 9 (-1)) 9 10 0) 9 11 (-1)) 9 12 (-1))
set_option maxRecDepth 100000 in
theorem sg_5 (xs : List Int) (m d : Nat) (h : mM) : exR PP (CT xs) (m + 49) d k_Tp_init 0 [mR 9, mC 0, mC 0, mC 0, mC 0, mC 0] [] (sk 10, rk_4, h) = exR PP (CT xs) m d k_Tp_init 49 [mR 9, mI 1, mL 0, mC 0, mI 0, mC 0] [] (sk 12, rk_5, hg_5 h) := rfl
def hg_6 (h : mM) : mM := (upM h 11 1 495763)
set_option maxRecDepth 100000 in
theorem sg_6 (xs : List Int) (m d : Nat) (h : mM) : exR PP (CT xs) (m + 105) d k_Tp_init 49 [mR 9, mI 1, mL 0, mC 0, mI 0, mC 0] [] (sk 12, rk_5, h) = exR PP (CT xs) m d k_Tp_init 49 [mR 9, mI 2, mL 0, mC 0, mI 5, mI 32] [] (sk 12, rk_5, hg_6 h) := rfl
def hg_7 (h : mM) : mM := (upM h 11 2 630829)
set_option maxRecDepth 100000 in
theorem sg_7 (xs : List Int) (m d : Nat) (h : mM) : exR PP (CT xs) (m + 105) d k_Tp_init 49 [mR 9, mI 2, mL 0, mC 0, mI 5, mI 32] [] (sk 12, rk_5, h) = exR PP (CT xs) m d k_Tp_init 49 [mR 9, mI 3, mL 0, mC 0, mI 10, mI 32] [] (sk 12, rk_5, hg_7 h) := rfl
def hg_8 (h : mM) : mM := (upM h 11 3 242167)
set_option maxRecDepth 100000 in
theorem sg_8 (xs : List Int) (m d : Nat) (h : mM) : exR PP (CT xs) (m + 105) d k_Tp_init 49 [mR 9, mI 3, mL 0, mC 0, mI 10, mI 32] [] (sk 12, rk_5, h) = exR PP (CT xs) m d k_Tp_init 49 [mR 9, mI 4, mL 0, mC 0, mI 15, mI 32] [] (sk 12, rk_5, hg_8 h) := rfl
def hg_9 (h : mM) : mM := (upM h 11 4 114156)
set_option maxRecDepth 100000 in
theorem sg_9 (xs : List Int) (m d : Nat) (h : mM) : exR PP (CT xs) (m + 105) d k_Tp_init 49 [mR 9, mI 4, mL 0, mC 0, mI 15, mI 32] [] (sk 12, rk_5, h) = exR PP (CT xs) m d k_Tp_init 49 [mR 9, mI 5, mL 0, mC 0, mI 20, mI 32] [] (sk 12, rk_5, hg_9 h) := rfl
def hg_10 (h : mM) : mM := (upM h 11 5 267316)
set_option maxRecDepth 100000 in
theorem sg_10 (xs : List Int) (m d : Nat) (h : mM) : exR PP (CT xs) (m + 105) d k_Tp_init 49 [mR 9, mI 5, mL 0, mC 0, mI 20, mI 32] [] (sk 12, rk_5, h) = exR PP (CT xs) m d k_Tp_init 49 [mR 9, mI 6, mL 0, mC 0, mI 25, mI 32] [] (sk 12, rk_5, hg_10 h) := rfl
def hg_11 (h : mM) : mM := (upM h 11 6 19039336)
set_option maxRecDepth 100000 in
theorem sg_11 (xs : List Int) (m d : Nat) (h : mM) : exR PP (CT xs) (m + 125) d k_Tp_init 49 [mR 9, mI 6, mL 0, mC 0, mI 25, mI 32] [] (sk 12, rk_5, h) = exR PP (CT xs) m d k_Tp_init 49 [mR 9, mI 7, mL 0, mC 0, mI 31, mI 32] [] (sk 12, rk_5, hg_11 h) := rfl
def hg_12 (h : mM) : mM := (upM h 11 7 542723566)
set_option maxRecDepth 100000 in
theorem sg_12 (xs : List Int) (m d : Nat) (h : mM) : exR PP (CT xs) (m + 145) d k_Tp_init 49 [mR 9, mI 7, mL 0, mC 0, mI 31, mI 32] [] (sk 12, rk_5, h) = exR PP (CT xs) m d k_Tp_init 49 [mR 9, mI 8, mL 0, mC 0, mI 38, mI 32] [] (sk 12, rk_5, hg_12 h) := rfl
def hg_13 (h : mM) : mM := (upM h 11 8 52)
set_option maxRecDepth 100000 in
theorem sg_13 (xs : List Int) (m d : Nat) (h : mM) : exR PP (CT xs) (m + 65) d k_Tp_init 49 [mR 9, mI 8, mL 0, mC 0, mI 38, mI 32] [] (sk 12, rk_5, h) = exR PP (CT xs) m d k_Tp_init 49 [mR 9, mI 9, mL 0, mC 0, mI 41, mI 32] [] (sk 12, rk_5, hg_13 h) := rfl
def hg_14 (h : mM) : mM := (upM h 11 9 13796820)
set_option maxRecDepth 100000 in
theorem sg_14 (xs : List Int) (m d : Nat) (h : mM) : exR PP (CT xs) (m + 125) d k_Tp_init 49 [mR 9, mI 9, mL 0, mC 0, mI 41, mI 32] [] (sk 12, rk_5, h) = exR PP (CT xs) m d k_Tp_init 49 [mR 9, mI 10, mL 0, mC 0, mI 47, mI 32] [] (sk 12, rk_5, hg_14 h) := rfl
def hg_15 (h : mM) : mM := (upM h 11 10 755277)
set_option maxRecDepth 100000 in
theorem sg_15 (xs : List Int) (m d : Nat) (h : mM) : exR PP (CT xs) (m + 105) d k_Tp_init 49 [mR 9, mI 10, mL 0, mC 0, mI 47, mI 32] [] (sk 12, rk_5, h) = exR PP (CT xs) m d k_Tp_init 49 [mR 9, mI 11, mL 0, mC 0, mI 52, mI 32] [] (sk 12, rk_5, hg_15 h) := rfl
def hg_16 (h : mM) : mM := (upM h 11 11 7920536755)
set_option maxRecDepth 100000 in
theorem sg_16 (xs : List Int) (m d : Nat) (h : mM) : exR PP (CT xs) (m + 165) d k_Tp_init 49 [mR 9, mI 11, mL 0, mC 0, mI 52, mI 32] [] (sk 12, rk_5, h) = exR PP (CT xs) m d k_Tp_init 49 [mR 9, mI 12, mL 0, mC 0, mI 60, mI 32] [] (sk 12, rk_5, hg_16 h) := rfl
def hg_17 (h : mM) : mM := (upM h 11 12 21464692)
set_option maxRecDepth 100000 in
theorem sg_17 (xs : List Int) (m d : Nat) (h : mM) : exR PP (CT xs) (m + 125) d k_Tp_init 49 [mR 9, mI 12, mL 0, mC 0, mI 60, mI 32] [] (sk 12, rk_5, h) = exR PP (CT xs) m d k_Tp_init 49 [mR 9, mI 13, mL 0, mC 0, mI 66, mI 32] [] (sk 12, rk_5, hg_17 h) := rfl
def hg_18 (h : mM) : mM := (upM h 11 13 655)
set_option maxRecDepth 100000 in
theorem sg_18 (xs : List Int) (m d : Nat) (h : mM) : exR PP (CT xs) (m + 65) d k_Tp_init 49 [mR 9, mI 13, mL 0, mC 0, mI 66, mI 32] [] (sk 12, rk_5, h) = exR PP (CT xs) m d k_Tp_init 49 [mR 9, mI 14, mL 0, mC 0, mI 69, mI 32] [] (sk 12, rk_5, hg_18 h) := rfl
def hg_19 (h : mM) : mM := (upM h 11 14 4793803)
set_option maxRecDepth 100000 in
theorem sg_19 (xs : List Int) (m d : Nat) (h : mM) : exR PP (CT xs) (m + 125) d k_Tp_init 49 [mR 9, mI 14, mL 0, mC 0, mI 69, mI 32] [] (sk 12, rk_5, h) = exR PP (CT xs) m d k_Tp_init 49 [mR 9, mI 15, mL 0, mC 0, mI 75, mI 32] [] (sk 12, rk_5, hg_19 h) := rfl
def hg_20 (h : mM) : mM := (upM h 11 15 14982420)
set_option maxRecDepth 100000 in
theorem sg_20 (xs : List Int) (m d : Nat) (h : mM) : exR PP (CT xs) (m + 125) d k_Tp_init 49 [mR 9, mI 15, mL 0, mC 0, mI 75, mI 32] [] (sk 12, rk_5, h) = exR PP (CT xs) m d k_Tp_init 49 [mR 9, mI 16, mL 0, mC 0, mI 81, mI 32] [] (sk 12, rk_5, hg_20 h) := rfl
def hg_21 (h : mM) : mM := (upM h 11 16 6112617927)
set_option maxRecDepth 100000 in
theorem sg_21 (xs : List Int) (m d : Nat) (h : mM) : exR PP (CT xs) (m + 165) d k_Tp_init 49 [mR 9, mI 16, mL 0, mC 0, mI 81, mI 32] [] (sk 12, rk_5, h) = exR PP (CT xs) m d k_Tp_init 49 [mR 9, mI 17, mL 0, mC 0, mI 89, mI 32] [] (sk 12, rk_5, hg_21 h) := rfl
def hg_22 (h : mM) : mM := (upM h 11 17 206220)
set_option maxRecDepth 100000 in
theorem sg_22 (xs : List Int) (m d : Nat) (h : mM) : exR PP (CT xs) (m + 105) d k_Tp_init 49 [mR 9, mI 17, mL 0, mC 0, mI 89, mI 32] [] (sk 12, rk_5, h) = exR PP (CT xs) m d k_Tp_init 49 [mR 9, mI 18, mL 0, mC 0, mI 94, mI 32] [] (sk 12, rk_5, hg_22 h) := rfl
def hg_23 (h : mM) : mM := (upM h 11 18 1497)
set_option maxRecDepth 100000 in
theorem sg_23 (xs : List Int) (m d : Nat) (h : mM) : exR PP (CT xs) (m + 85) d k_Tp_init 49 [mR 9, mI 18, mL 0, mC 0, mI 94, mI 32] [] (sk 12, rk_5, h) = exR PP (CT xs) m d k_Tp_init 49 [mR 9, mI 19, mL 0, mC 0, mI 98, mI 32] [] (sk 12, rk_5, hg_23 h) := rfl
def hg_24 (h : mM) : mM := (upM h 11 19 762030)
set_option maxRecDepth 100000 in
theorem sg_24 (xs : List Int) (m d : Nat) (h : mM) : exR PP (CT xs) (m + 105) d k_Tp_init 49 [mR 9, mI 19, mL 0, mC 0, mI 98, mI 32] [] (sk 12, rk_5, h) = exR PP (CT xs) m d k_Tp_init 49 [mR 9, mI 20, mL 0, mC 0, mI 103, mI 32] [] (sk 12, rk_5, hg_24 h) := rfl
def hg_25 (h : mM) : mM := (upM h 11 20 12596)
set_option maxRecDepth 100000 in
theorem sg_25 (xs : List Int) (m d : Nat) (h : mM) : exR PP (CT xs) (m + 85) d k_Tp_init 49 [mR 9, mI 20, mL 0, mC 0, mI 103, mI 32] [] (sk 12, rk_5, h) = exR PP (CT xs) m d k_Tp_init 49 [mR 9, mI 21, mL 0, mC 0, mI 107, mI 32] [] (sk 12, rk_5, hg_25 h) := rfl
def hg_26 (h : mM) : mM := (upM h 11 21 409072)
set_option maxRecDepth 100000 in
theorem sg_26 (xs : List Int) (m d : Nat) (h : mM) : exR PP (CT xs) (m + 105) d k_Tp_init 49 [mR 9, mI 21, mL 0, mC 0, mI 107, mI 32] [] (sk 12, rk_5, h) = exR PP (CT xs) m d k_Tp_init 49 [mR 9, mI 22, mL 0, mC 0, mI 112, mI 32] [] (sk 12, rk_5, hg_26 h) := rfl
def hg_27 (h : mM) : mM := (upM h 11 22 5572)
set_option maxRecDepth 100000 in
theorem sg_27 (xs : List Int) (m d : Nat) (h : mM) : exR PP (CT xs) (m + 85) d k_Tp_init 49 [mR 9, mI 22, mL 0, mC 0, mI 112, mI 32] [] (sk 12, rk_5, h) = exR PP (CT xs) m d k_Tp_init 49 [mR 9, mI 23, mL 0, mC 0, mI 116, mI 32] [] (sk 12, rk_5, hg_27 h) := rfl
def hg_28 (h : mM) : mM := (upM h 11 23 643568)
set_option maxRecDepth 100000 in
theorem sg_28 (xs : List Int) (m d : Nat) (h : mM) : exR PP (CT xs) (m + 105) d k_Tp_init 49 [mR 9, mI 23, mL 0, mC 0, mI 116, mI 32] [] (sk 12, rk_5, h) = exR PP (CT xs) m d k_Tp_init 49 [mR 9, mI 24, mL 0, mC 0, mI 121, mI 32] [] (sk 12, rk_5, hg_28 h) := rfl
set_option maxRecDepth 100000 in
theorem sg_29 (xs : List Int) (m d : Nat) (h : mM) : exR PP (CT xs) (m + 5) d k_Tp_init 49 [mR 9, mI 24, mL 0, mC 0, mI 121, mI 32] [] (sk 12, rk_5, h) = some ([], (sk 12, rk_5, h)) := rfl
def mk_3 (h : mM) : mM := (hg_28 (hg_27 (hg_26 (hg_25 (hg_24 (hg_23 (hg_22 (hg_21 (hg_20 (hg_19 (hg_18 (hg_17 (hg_16 (hg_15 (hg_14 (hg_13 (hg_12 (hg_11 (hg_10 (hg_9 (hg_8 (hg_7 (hg_6 (hg_5 h))))))))))))))))))))))))
theorem i_3 (xs : List Int) (d : Nat) (h : mM) : Fin xs d k_Tp_init 0 [mR 9, mC 0, mC 0, mC 0, mC 0, mC 0] [] (sk 10, rk_4, h) ([], (sk 12, rk_5, mk_3 h)) := fin_seg (fun m => sg_5 xs m d _) <| fin_seg (fun m => sg_6 xs m d _) <| fin_seg (fun m => sg_7 xs m d _) <| fin_seg (fun m => sg_8 xs m d _) <| fin_seg (fun m => sg_9 xs m d _) <| fin_seg (fun m => sg_10 xs m d _) <| fin_seg (fun m => sg_11 xs m d _) <| fin_seg (fun m => sg_12 xs m d _) <| fin_seg (fun m => sg_13 xs m d _) <| fin_seg (fun m => sg_14 xs m d _) <| fin_seg (fun m => sg_15 xs m d _) <| fin_seg (fun m => sg_16 xs m d _) <| fin_seg (fun m => sg_17 xs m d _) <| fin_seg (fun m => sg_18 xs m d _) <| fin_seg (fun m => sg_19 xs m d _) <| fin_seg (fun m => sg_20 xs m d _) <| fin_seg (fun m => sg_21 xs m d _) <| fin_seg (fun m => sg_22 xs m d _) <| fin_seg (fun m => sg_23 xs m d _) <| fin_seg (fun m => sg_24 xs m d _) <| fin_seg (fun m => sg_25 xs m d _) <| fin_seg (fun m => sg_26 xs m d _) <| fin_seg (fun m => sg_27 xs m d _) <| fin_seg (fun m => sg_28 xs m d _) <| fin_end (fun m => sg_29 xs m d _)
def rk_6 : mRf := ((rset rk_5 0 5 9) ++ [List.replicate 10 none])
set_option maxRecDepth 100000 in
theorem sg_30 (xs : List Int) (m d : Nat) (h : mM) : exR PP (CT xs) (m + 4) d k_T_init 23 [mR 0] [mR 9, mR 0] (sk 12, rk_5, h) = exR PP (CT xs) m d k_T_init 27 [mR 0] [mR 12, mR 12, mR 0] (sk 13, rk_6, h) := rfl
def rk_7 : mRf := (rset ((rset ((rset ((rset ((rset ((rset ((rset ((rset (rk_6 ++ [[]]) 12 2 13) ++ [[]]) 12 3 14) ++ [[]]) 12 4 15) ++ [[]]) 12 5 16) ++ [[]]) 12 6 17) ++ [[]]) 12 7 18) ++ [[]]) 12 8 19) ++ [[]]) 12 9 20)
def hg_31 (h : mM) : mM := (mCpyC (upM (upM h 12 0 0) 12 1 0) (CT [] 4) 0 13 0 7)
set_option maxRecDepth 100000 in
theorem sg_31 (xs : List Int) (m d : Nat) (h : mM) : exR PP (CT xs) (m + 48) d k_Co_init 0 [mR 12] [] (sk 13, rk_6, h) = some ([], (sk 21, rk_7, hg_31 h)) := rfl
def mk_4 (h : mM) : mM := (hg_31 h)
theorem i_4 (xs : List Int) (d : Nat) (h : mM) : Fin xs d k_Co_init 0 [mR 12] [] (sk 13, rk_6, h) ([], (sk 21, rk_7, mk_4 h)) := fin_end (fun m => sg_31 xs m d _)
def rk_8 : mRf := ((rset rk_7 0 6 12) ++ [List.replicate 10 none])
set_option maxRecDepth 100000 in
theorem sg_32 (xs : List Int) (m d : Nat) (h : mM) : exR PP (CT xs) (m + 4) d k_T_init 28 [mR 0] [mR 12, mR 0] (sk 21, rk_7, h) = exR PP (CT xs) m d k_T_init 32 [mR 0] [mR 21, mR 21, mR 0] (sk 22, rk_8, h) := rfl
def rk_9 : mRf := (rset ((rset ((rset ((rset ((rset ((rset ((rset ((rset (rk_8 ++ [[]]) 21 2 22) ++ [[]]) 21 3 23) ++ [[]]) 21 4 24) ++ [[]]) 21 5 25) ++ [[]]) 21 6 26) ++ [[]]) 21 7 27) ++ [[]]) 21 8 28) ++ [[]]) 21 9 29)
def hg_33 (h : mM) : mM := (mCpyC (upM (upM h 21 0 0) 21 1 0) (CT [] 4) 0 22 0 7)
set_option maxRecDepth 100000 in
theorem sg_33 (xs : List Int) (m d : Nat) (h : mM) : exR PP (CT xs) (m + 48) d k_Co_init 0 [mR 21] [] (sk 22, rk_8, h) = some ([], (sk 30, rk_9, hg_33 h)) := rfl
def mk_5 (h : mM) : mM := (hg_33 h)
theorem i_5 (xs : List Int) (d : Nat) (h : mM) : Fin xs d k_Co_init 0 [mR 21] [] (sk 22, rk_8, h) ([], (sk 30, rk_9, mk_5 h)) := fin_end (fun m => sg_33 xs m d _)
def rk_10 : mRf := ((rset rk_9 0 7 21) ++ [List.replicate 9 none])
set_option maxRecDepth 100000 in
theorem sg_34 (xs : List Int) (m d : Nat) (h : mM) : exR PP (CT xs) (m + 4) d k_T_init 33 [mR 0] [mR 21, mR 0] (sk 30, rk_9, h) = exR PP (CT xs) m d k_T_init 37 [mR 0] [mR 30, mR 30, mR 0] (sk 31, rk_10, h) := rfl
def rk_11 : mRf := (rset ((rset ((rset ((rset ((rset ((rset (rk_10 ++ [[]]) 30 0 31) ++ [[]]) 30 1 32) ++ [[]]) 30 2 33) ++ [[]]) 30 3 34) ++ [[]]) 30 4 35) ++ [[]]) 30 5 36)
def hg_35 (h : mM) : mM := (upM (upM (upM h 30 6 0) 30 7 0) 30 8 0)
set_option maxRecDepth 100000 in
theorem sg_35 (xs : List Int) (m d : Nat) (h : mM) : exR PP (CT xs) (m + 36) d k_Ti_init 0 [mR 30] [] (sk 31, rk_10, h) = some ([], (sk 37, rk_11, hg_35 h)) := rfl
def mk_6 (h : mM) : mM := (hg_35 h)
theorem i_6 (xs : List Int) (d : Nat) (h : mM) : Fin xs d k_Ti_init 0 [mR 30] [] (sk 31, rk_10, h) ([], (sk 37, rk_11, mk_6 h)) := fin_end (fun m => sg_35 xs m d _)
def rk_12 : mRf := ((rset rk_11 0 8 30) ++ [List.replicate 3 none])
set_option maxRecDepth 100000 in
theorem sg_36 (xs : List Int) (m d : Nat) (h : mM) : exR PP (CT xs) (m + 6) d k_T_init 38 [mR 0] [mR 30, mR 0] (sk 37, rk_11, h) = exR PP (CT xs) m d k_T_init 44 [mR 0] [mR 9, mR 37, mR 37, mR 0] (sk 38, rk_12, h) := rfl
def rk_13 : mRf := (rk_12 ++ [List.replicate 10 none])
set_option maxRecDepth 100000 in
theorem sg_37 (xs : List Int) (m d : Nat) (h : mM) : exR PP (CT xs) (m + 5) d k_MR_init 0 [mR 37, mR 9] [] (sk 38, rk_12, h) = exR PP (CT xs) m d k_MR_init 5 [mR 37, mR 9] [mR 38, mR 38, mR 37] (sk 39, rk_13, h) := rfl
def rk_14 : mRf := (rset ((rset ((rset ((rset ((rset ((rset ((rset ((rset (rk_13 ++ [[]]) 38 2 39) ++ [[]]) 38 3 40) ++ [[]]) 38 4 41) ++ [[]]) 38 5 42) ++ [[]]) 38 6 43) ++ [[]]) 38 7 44) ++ [[]]) 38 8 45) ++ [[]]) 38 9 46)
def hg_38 (h : mM) : mM := (mCpyC (upM (upM h 38 0 0) 38 1 0) (CT [] 4) 0 39 0 7)
set_option maxRecDepth 100000 in
theorem sg_38 (xs : List Int) (m d : Nat) (h : mM) : exR PP (CT xs) (m + 48) d k_Co_init 0 [mR 38] [] (sk 39, rk_13, h) = some ([], (sk 47, rk_14, hg_38 h)) := rfl
def mk_8 (h : mM) : mM := (hg_38 h)
theorem i_8 (xs : List Int) (d : Nat) (h : mM) : Fin xs d k_Co_init 0 [mR 38] [] (sk 39, rk_13, h) ([], (sk 47, rk_14, mk_8 h)) := fin_end (fun m => sg_38 xs m d _)
def rk_15 : mRf := (rset (rset rk_14 37 1 38) 37 0 9)
def hg_39 (h : mM) : mM := (upM h 37 2 0)
set_option maxRecDepth 100000 in
theorem sg_39 (xs : List Int) (m d : Nat) (h : mM) : exR PP (CT xs) (m + 8) d k_MR_init 6 [mR 37, mR 9] [mR 38, mR 37] (sk 47, rk_14, h) = some ([], (sk 47, rk_15, hg_39 h)) := rfl
def mk_7 (h : mM) : mM := (hg_39 (mk_8 h))
theorem i_7 (xs : List Int) (d : Nat) (h : mM) : Fin xs d k_MR_init 0 [mR 37, mR 9] [] (sk 38, rk_12, h) ([], (sk 47, rk_15, mk_7 h)) := fin_seg (fun m => sg_37 xs m d _) <| fin_call (id := 225) (args := [mR 38]) (rest := [mR 38, mR 37]) rfl p_Co_init rfl rfl rfl rfl (i_8 xs d _) <| fin_end (fun m => sg_39 xs m d _)
def rk_16 : mRf := ((rset rk_15 0 9 37) ++ [List.replicate 4 none])
set_option maxRecDepth 100000 in
theorem sg_40 (xs : List Int) (m d : Nat) (h : mM) : exR PP (CT xs) (m + 6) d k_T_init 45 [mR 0] [mR 37, mR 0] (sk 47, rk_15, h) = exR PP (CT xs) m d k_T_init 51 [mR 0] [mR 9, mR 47, mR 47, mR 0] (sk 48, rk_16, h) := rfl
def rk_17 : mRf := (rk_16 ++ [List.replicate 9 none])
set_option maxRecDepth 100000 in
theorem sg_41 (xs : List Int) (m d : Nat) (h : mM) : exR PP (CT xs) (m + 5) d k_TR_init 0 [mR 47, mR 9] [] (sk 48, rk_16, h) = exR PP (CT xs) m d k_TR_init 5 [mR 47, mR 9] [mR 48, mR 48, mR 47] (sk 49, rk_17, h) := rfl
def rk_18 : mRf := (rset ((rset ((rset ((rset ((rset ((rset (rk_17 ++ [[]]) 48 0 49) ++ [[]]) 48 1 50) ++ [[]]) 48 2 51) ++ [[]]) 48 3 52) ++ [[]]) 48 4 53) ++ [[]]) 48 5 54)
def hg_42 (h : mM) : mM := (upM (upM (upM h 48 6 0) 48 7 0) 48 8 0)
set_option maxRecDepth 100000 in
theorem sg_42 (xs : List Int) (m d : Nat) (h : mM) : exR PP (CT xs) (m + 36) d k_Ti_init 0 [mR 48] [] (sk 49, rk_17, h) = some ([], (sk 55, rk_18, hg_42 h)) := rfl
def mk_10 (h : mM) : mM := (hg_42 h)
theorem i_10 (xs : List Int) (d : Nat) (h : mM) : Fin xs d k_Ti_init 0 [mR 48] [] (sk 49, rk_17, h) ([], (sk 55, rk_18, mk_10 h)) := fin_end (fun m => sg_42 xs m d _)
def rk_19 : mRf := (rset (rset ((rset rk_18 47 1 48) ++ [[]]) 47 2 55) 47 0 9)
def hg_43 (h : mM) : mM := (upM h 47 3 0)
set_option maxRecDepth 100000 in
theorem sg_43 (xs : List Int) (m d : Nat) (h : mM) : exR PP (CT xs) (m + 12) d k_TR_init 6 [mR 47, mR 9] [mR 48, mR 47] (sk 55, rk_18, h) = some ([], (sk 56, rk_19, hg_43 h)) := rfl
def mk_9 (h : mM) : mM := (hg_43 (mk_10 h))
theorem i_9 (xs : List Int) (d : Nat) (h : mM) : Fin xs d k_TR_init 0 [mR 47, mR 9] [] (sk 48, rk_16, h) ([], (sk 56, rk_19, mk_9 h)) := fin_seg (fun m => sg_41 xs m d _) <| fin_call (id := 319) (args := [mR 48]) (rest := [mR 48, mR 47]) rfl p_Ti_init rfl rfl rfl rfl (i_10 xs d _) <| fin_end (fun m => sg_43 xs m d _)
def rk_20 : mRf := ((rset rk_19 0 10 47) ++ [List.replicate 3 none])
set_option maxRecDepth 100000 in
theorem sg_44 (xs : List Int) (m d : Nat) (h : mM) : exR PP (CT xs) (m + 4) d k_T_init 52 [mR 0] [mR 47, mR 0] (sk 56, rk_19, h) = exR PP (CT xs) m d k_T_init 56 [mR 0] [mR 56, mR 56, mR 0] (sk 57, rk_20, h) := rfl
def rk_21 : mRf := ((rset ((rset (rk_20 ++ [List.replicate 3 none]) 56 0 57) ++ [List.replicate 3 none]) 56 1 58) ++ [List.replicate 10 none])
def hg_45 (h : mM) : mM := (upM h 56 2 0)
set_option maxRecDepth 100000 in
theorem sg_45 (xs : List Int) (m d : Nat) (h : mM) : exR PP (CT xs) (m + 23) d k_Mk_init 0 [mR 56, mC 0] [] (sk 57, rk_20, h) = exR PP (CT xs) m d k_Mk_init 23 [mR 56, mI 0] [mR 59, mR 59, mI 0, mR 57] (sk 60, rk_21, hg_45 h) := rfl
def rk_22 : mRf := (rset ((rset ((rset ((rset ((rset ((rset ((rset ((rset (rk_21 ++ [[]]) 59 2 60) ++ [[]]) 59 3 61) ++ [[]]) 59 4 62) ++ [[]]) 59 5 63) ++ [[]]) 59 6 64) ++ [[]]) 59 7 65) ++ [[]]) 59 8 66) ++ [[]]) 59 9 67)
def hg_46 (h : mM) : mM := (mCpyC (upM (upM h 59 0 0) 59 1 0) (CT [] 4) 0 60 0 7)
set_option maxRecDepth 100000 in
theorem sg_46 (xs : List Int) (m d : Nat) (h : mM) : exR PP (CT xs) (m + 48) d k_Co_init 0 [mR 59] [] (sk 60, rk_21, h) = some ([], (sk 68, rk_22, hg_46 h)) := rfl
def mk_12 (h : mM) : mM := (hg_46 h)
theorem i_12 (xs : List Int) (d : Nat) (h : mM) : Fin xs d k_Co_init 0 [mR 59] [] (sk 60, rk_21, h) ([], (sk 68, rk_22, mk_12 h)) := fin_end (fun m => sg_46 xs m d _)
def rk_23 : mRf := ((rset rk_22 57 0 59) ++ [List.replicate 9 none])
set_option maxRecDepth 100000 in
theorem sg_47 (xs : List Int) (m d : Nat) (h : mM) : exR PP (CT xs) (m + 6) d k_Mk_init 24 [mR 56, mI 0] [mR 59, mI 0, mR 57] (sk 68, rk_22, h) = exR PP (CT xs) m d k_Mk_init 30 [mR 56, mI 0] [mR 68, mR 68, mI 0, mR 58] (sk 69, rk_23, h) := rfl
def rk_24 : mRf := (rset ((rset ((rset ((rset ((rset ((rset (rk_23 ++ [[]]) 68 0 69) ++ [[]]) 68 1 70) ++ [[]]) 68 2 71) ++ [[]]) 68 3 72) ++ [[]]) 68 4 73) ++ [[]]) 68 5 74)
def hg_48 (h : mM) : mM := (upM (upM (upM h 68 6 0) 68 7 0) 68 8 0)
set_option maxRecDepth 100000 in
theorem sg_48 (xs : List Int) (m d : Nat) (h : mM) : exR PP (CT xs) (m + 36) d k_Ti_init 0 [mR 68] [] (sk 69, rk_23, h) = some ([], (sk 75, rk_24, hg_48 h)) := rfl
def mk_13 (h : mM) : mM := (hg_48 h)
theorem i_13 (xs : List Int) (d : Nat) (h : mM) : Fin xs d k_Ti_init 0 [mR 68] [] (sk 69, rk_23, h) ([], (sk 75, rk_24, mk_13 h)) := fin_end (fun m => sg_48 xs m d _)
def rk_25 : mRf := ((rset rk_24 58 0 68) ++ [List.replicate 10 none])
set_option maxRecDepth 100000 in
theorem sg_49 (xs : List Int) (m d : Nat) (h : mM) : exR PP (CT xs) (m + 11) d k_Mk_init 31 [mR 56, mI 0] [mR 68, mI 0, mR 58] (sk 75, rk_24, h) = exR PP (CT xs) m d k_Mk_init 23 [mR 56, mI 1] [mR 75, mR 75, mI 1, mR 57] (sk 76, rk_25, h) := rfl
def rk_26 : mRf := (rset ((rset ((rset ((rset ((rset ((rset ((rset ((rset (rk_25 ++ [[]]) 75 2 76) ++ [[]]) 75 3 77) ++ [[]]) 75 4 78) ++ [[]]) 75 5 79) ++ [[]]) 75 6 80) ++ [[]]) 75 7 81) ++ [[]]) 75 8 82) ++ [[]]) 75 9 83)
def hg_50 (h : mM) : mM := (mCpyC (upM (upM h 75 0 0) 75 1 0) (CT [] 4) 0 76 0 7)
set_option maxRecDepth 100000 in
theorem sg_50 (xs : List Int) (m d : Nat) (h : mM) : exR PP (CT xs) (m + 48) d k_Co_init 0 [mR 75] [] (sk 76, rk_25, h) = some ([], (sk 84, rk_26, hg_50 h)) := rfl
def mk_14 (h : mM) : mM := (hg_50 h)
theorem i_14 (xs : List Int) (d : Nat) (h : mM) : Fin xs d k_Co_init 0 [mR 75] [] (sk 76, rk_25, h) ([], (sk 84, rk_26, mk_14 h)) := fin_end (fun m => sg_50 xs m d _)
def rk_27 : mRf := ((rset rk_26 57 1 75) ++ [List.replicate 9 none])
set_option maxRecDepth 100000 in
theorem sg_51 (xs : List Int) (m d : Nat) (h : mM) : exR PP (CT xs) (m + 6) d k_Mk_init 24 [mR 56, mI 1] [mR 75, mI 1, mR 57] (sk 84, rk_26, h) = exR PP (CT xs) m d k_Mk_init 30 [mR 56, mI 1] [mR 84, mR 84, mI 1, mR 58] (sk 85, rk_27, h) := rfl
def rk_28 : mRf := (rset ((rset ((rset ((rset ((rset ((rset (rk_27 ++ [[]]) 84 0 85) ++ [[]]) 84 1 86) ++ [[]]) 84 2 87) ++ [[]]) 84 3 88) ++ [[]]) 84 4 89) ++ [[]]) 84 5 90)
def hg_52 (h : mM) : mM := (upM (upM (upM h 84 6 0) 84 7 0) 84 8 0)
set_option maxRecDepth 100000 in
theorem sg_52 (xs : List Int) (m d : Nat) (h : mM) : exR PP (CT xs) (m + 36) d k_Ti_init 0 [mR 84] [] (sk 85, rk_27, h) = some ([], (sk 91, rk_28, hg_52 h)) := rfl
def mk_15 (h : mM) : mM := (hg_52 h)
theorem i_15 (xs : List Int) (d : Nat) (h : mM) : Fin xs d k_Ti_init 0 [mR 84] [] (sk 85, rk_27, h) ([], (sk 91, rk_28, mk_15 h)) := fin_end (fun m => sg_52 xs m d _)
def rk_29 : mRf := ((rset rk_28 58 1 84) ++ [List.replicate 10 none])
set_option maxRecDepth 100000 in
theorem sg_53 (xs : List Int) (m d : Nat) (h : mM) : exR PP (CT xs) (m + 11) d k_Mk_init 31 [mR 56, mI 1] [mR 84, mI 1, mR 58] (sk 91, rk_28, h) = exR PP (CT xs) m d k_Mk_init 23 [mR 56, mI 2] [mR 91, mR 91, mI 2, mR 57] (sk 92, rk_29, h) := rfl
def rk_30 : mRf := (rset ((rset ((rset ((rset ((rset ((rset ((rset ((rset (rk_29 ++ [[]]) 91 2 92) ++ [[]]) 91 3 93) ++ [[]]) 91 4 94) ++ [[]]) 91 5 95) ++ [[]]) 91 6 96) ++ [[]]) 91 7 97) ++ [[]]) 91 8 98) ++ [[]]) 91 9 99)
def hg_54 (h : mM) : mM := (mCpyC (upM (upM h 91 0 0) 91 1 0) (CT [] 4) 0 92 0 7)
set_option maxRecDepth 100000 in
theorem sg_54 (xs : List Int) (m d : Nat) (h : mM) : exR PP (CT xs) (m + 48) d k_Co_init 0 [mR 91] [] (sk 92, rk_29, h) = some ([], (sk 100, rk_30, hg_54 h)) := rfl
def mk_16 (h : mM) : mM := (hg_54 h)
theorem i_16 (xs : List Int) (d : Nat) (h : mM) : Fin xs d k_Co_init 0 [mR 91] [] (sk 92, rk_29, h) ([], (sk 100, rk_30, mk_16 h)) := fin_end (fun m => sg_54 xs m d _)
def rk_31 : mRf := ((rset rk_30 57 2 91) ++ [List.replicate 9 none])
set_option maxRecDepth 100000 in
theorem sg_55 (xs : List Int) (m d : Nat) (h : mM) : exR PP (CT xs) (m + 6) d k_Mk_init 24 [mR 56, mI 2] [mR 91, mI 2, mR 57] (sk 100, rk_30, h) = exR PP (CT xs) m d k_Mk_init 30 [mR 56, mI 2] [mR 100, mR 100, mI 2, mR 58] (sk 101, rk_31, h) := rfl
def rk_32 : mRf := (rset ((rset ((rset ((rset ((rset ((rset (rk_31 ++ [[]]) 100 0 101) ++ [[]]) 100 1 102) ++ [[]]) 100 2 103) ++ [[]]) 100 3 104) ++ [[]]) 100 4 105) ++ [[]]) 100 5 106)
def hg_56 (h : mM) : mM := (upM (upM (upM h 100 6 0) 100 7 0) 100 8 0)
set_option maxRecDepth 100000 in
theorem sg_56 (xs : List Int) (m d : Nat) (h : mM) : exR PP (CT xs) (m + 36) d k_Ti_init 0 [mR 100] [] (sk 101, rk_31, h) = some ([], (sk 107, rk_32, hg_56 h)) := rfl
def mk_17 (h : mM) : mM := (hg_56 h)
theorem i_17 (xs : List Int) (d : Nat) (h : mM) : Fin xs d k_Ti_init 0 [mR 100] [] (sk 101, rk_31, h) ([], (sk 107, rk_32, mk_17 h)) := fin_end (fun m => sg_56 xs m d _)
def rk_33 : mRf := (rset rk_32 58 2 100)
set_option maxRecDepth 100000 in
theorem sg_57 (xs : List Int) (m d : Nat) (h : mM) : exR PP (CT xs) (m + 7) d k_Mk_init 31 [mR 56, mI 2] [mR 100, mI 2, mR 58] (sk 107, rk_32, h) = some ([], (sk 107, rk_33, h)) := rfl
def mk_11 (h : mM) : mM := (mk_17 (mk_16 (mk_15 (mk_14 (mk_13 (mk_12 (hg_45 h)))))))
theorem i_11 (xs : List Int) (d : Nat) (h : mM) : Fin xs d k_Mk_init 0 [mR 56, mC 0] [] (sk 57, rk_20, h) ([], (sk 107, rk_33, mk_11 h)) := fin_seg (fun m => sg_45 xs m d _) <| fin_call (id := 225) (args := [mR 59]) (rest := [mR 59, mI 0, mR 57]) rfl p_Co_init rfl rfl rfl rfl (i_12 xs d _) <| fin_seg (fun m => sg_47 xs m d _) <| fin_call (id := 319) (args := [mR 68]) (rest := [mR 68, mI 0, mR 58]) rfl p_Ti_init rfl rfl rfl rfl (i_13 xs d _) <| fin_seg (fun m => sg_49 xs m d _) <| fin_call (id := 225) (args := [mR 75]) (rest := [mR 75, mI 1, mR 57]) rfl p_Co_init rfl rfl rfl rfl (i_14 xs d _) <| fin_seg (fun m => sg_51 xs m d _) <| fin_call (id := 319) (args := [mR 84]) (rest := [mR 84, mI 1, mR 58]) rfl p_Ti_init rfl rfl rfl rfl (i_15 xs d _) <| fin_seg (fun m => sg_53 xs m d _) <| fin_call (id := 225) (args := [mR 91]) (rest := [mR 91, mI 2, mR 57]) rfl p_Co_init rfl rfl rfl rfl (i_16 xs d _) <| fin_seg (fun m => sg_55 xs m d _) <| fin_call (id := 319) (args := [mR 100]) (rest := [mR 100, mI 2, mR 58]) rfl p_Ti_init rfl rfl rfl rfl (i_17 xs d _) <| fin_end (fun m => sg_57 xs m d _)
def rk_34 : mRf := ((rset rk_33 0 11 56) ++ [List.replicate 8 none])
set_option maxRecDepth 100000 in
theorem sg_58 (xs : List Int) (m d : Nat) (h : mM) : exR PP (CT xs) (m + 4) d k_T_init 57 [mR 0] [mR 56, mR 0] (sk 107, rk_33, h) = exR PP (CT xs) m d k_T_init 61 [mR 0] [mR 107, mR 107, mR 0] (sk 108, rk_34, h) := rfl
def rk_35 : mRf := (rset (rk_34 ++ [[]]) 107 0 108)
def hg_59 (h : mM) : mM := (upM (upM (upM (upM (upM (upM (upM h 107 1 0) 107 2 0) 107 3 0) 107 4 0) 107 5 0) 107 6 0) 107 7 0)
set_option maxRecDepth 100000 in
theorem sg_59 (xs : List Int) (m d : Nat) (h : mM) : exR PP (CT xs) (m + 28) d k_Li_init 0 [mR 107] [] (sk 108, rk_34, h) = some ([], (sk 109, rk_35, hg_59 h)) := rfl
def mk_18 (h : mM) : mM := (hg_59 h)
theorem i_18 (xs : List Int) (d : Nat) (h : mM) : Fin xs d k_Li_init 0 [mR 107] [] (sk 108, rk_34, h) ([], (sk 109, rk_35, mk_18 h)) := fin_end (fun m => sg_59 xs m d _)
def rk_36 : mRf := ((rset rk_35 0 12 107) ++ [List.replicate 8 none])
set_option maxRecDepth 100000 in
theorem sg_60 (xs : List Int) (m d : Nat) (h : mM) : exR PP (CT xs) (m + 4) d k_T_init 62 [mR 0] [mR 107, mR 0] (sk 109, rk_35, h) = exR PP (CT xs) m d k_T_init 66 [mR 0] [mR 109, mR 109, mR 0] (sk 110, rk_36, h) := rfl
def rk_37 : mRf := (rset (rk_36 ++ [[]]) 109 0 110)
def hg_61 (h : mM) : mM := (upM (upM (upM (upM (upM (upM (upM h 109 1 0) 109 2 0) 109 3 0) 109 4 0) 109 5 0) 109 6 0) 109 7 0)
set_option maxRecDepth 100000 in
theorem sg_61 (xs : List Int) (m d : Nat) (h : mM) : exR PP (CT xs) (m + 28) d k_Li_init 0 [mR 109] [] (sk 110, rk_36, h) = some ([], (sk 111, rk_37, hg_61 h)) := rfl
def mk_19 (h : mM) : mM := (hg_61 h)
theorem i_19 (xs : List Int) (d : Nat) (h : mM) : Fin xs d k_Li_init 0 [mR 109] [] (sk 110, rk_36, h) ([], (sk 111, rk_37, mk_19 h)) := fin_end (fun m => sg_61 xs m d _)
def rk_38 : mRf := ((rset rk_37 0 13 109) ++ [List.replicate 5 none])
set_option maxRecDepth 100000 in
theorem sg_62 (xs : List Int) (m d : Nat) (h : mM) : exR PP (CT xs) (m + 4) d k_T_init 67 [mR 0] [mR 109, mR 0] (sk 111, rk_37, h) = exR PP (CT xs) m d k_T_init 71 [mR 0] [mR 111, mR 111, mR 0] (sk 112, rk_38, h) := rfl
def rk_39 : mRf := (rset ((rset ((rset (rk_38 ++ [[]]) 111 0 112) ++ [[]]) 111 1 113) ++ [[]]) 111 2 114)
def hg_63 (h : mM) : mM := (upM (upM h 111 3 0) 111 4 0)
set_option maxRecDepth 100000 in
theorem sg_63 (xs : List Int) (m d : Nat) (h : mM) : exR PP (CT xs) (m + 21) d k_Wy_init 0 [mR 111] [] (sk 112, rk_38, h) = some ([], (sk 115, rk_39, hg_63 h)) := rfl
def mk_20 (h : mM) : mM := (hg_63 h)
theorem i_20 (xs : List Int) (d : Nat) (h : mM) : Fin xs d k_Wy_init 0 [mR 111] [] (sk 112, rk_38, h) ([], (sk 115, rk_39, mk_20 h)) := fin_end (fun m => sg_63 xs m d _)
def rk_40 : mRf := ((rset rk_39 0 14 111) ++ [List.replicate 4 none])
set_option maxRecDepth 100000 in
theorem sg_64 (xs : List Int) (m d : Nat) (h : mM) : exR PP (CT xs) (m + 4) d k_T_init 72 [mR 0] [mR 111, mR 0] (sk 115, rk_39, h) = exR PP (CT xs) m d k_T_init 76 [mR 0] [mR 115, mR 115, mR 0] (sk 116, rk_40, h) := rfl
def rk_41 : mRf := (rk_40 ++ [List.replicate 10 none])
set_option maxRecDepth 100000 in
theorem sg_65 (xs : List Int) (m d : Nat) (h : mM) : exR PP (CT xs) (m + 5) d k_Ga_init 0 [mR 115] [] (sk 116, rk_40, h) = exR PP (CT xs) m d k_Ga_init 5 [mR 115] [mR 116, mR 116, mR 115] (sk 117, rk_41, h) := rfl
def rk_42 : mRf := (rset ((rset ((rset ((rset ((rset ((rset ((rset ((rset (rk_41 ++ [[]]) 116 2 117) ++ [[]]) 116 3 118) ++ [[]]) 116 4 119) ++ [[]]) 116 5 120) ++ [[]]) 116 6 121) ++ [[]]) 116 7 122) ++ [[]]) 116 8 123) ++ [[]]) 116 9 124)
def hg_66 (h : mM) : mM := (mCpyC (upM (upM h 116 0 0) 116 1 0) (CT [] 4) 0 117 0 7)
set_option maxRecDepth 100000 in
theorem sg_66 (xs : List Int) (m d : Nat) (h : mM) : exR PP (CT xs) (m + 48) d k_Co_init 0 [mR 116] [] (sk 117, rk_41, h) = some ([], (sk 125, rk_42, hg_66 h)) := rfl
def mk_22 (h : mM) : mM := (hg_66 h)
theorem i_22 (xs : List Int) (d : Nat) (h : mM) : Fin xs d k_Co_init 0 [mR 116] [] (sk 117, rk_41, h) ([], (sk 125, rk_42, mk_22 h)) := fin_end (fun m => sg_66 xs m d _)
def rk_43 : mRf := (rset rk_42 115 0 116)
def hg_67 (h : mM) : mM := (upM (upM (upM h 115 1 0) 115 2 0) 115 3 (-1))
set_option maxRecDepth 100000 in
theorem sg_67 (xs : List Int) (m d : Nat) (h : mM) : exR PP (CT xs) (m + 11) d k_Ga_init 6 [mR 115] [mR 116, mR 115] (sk 125, rk_42, h) = some ([], (sk 125, rk_43, hg_67 h)) := rfl
def mk_21 (h : mM) : mM := (hg_67 (mk_22 h))
theorem i_21 (xs : List Int) (d : Nat) (h : mM) : Fin xs d k_Ga_init 0 [mR 115] [] (sk 116, rk_40, h) ([], (sk 125, rk_43, mk_21 h)) := fin_seg (fun m => sg_65 xs m d _) <| fin_call (id := 225) (args := [mR 116]) (rest := [mR 116, mR 115]) rfl p_Co_init rfl rfl rfl rfl (i_22 xs d _) <| fin_end (fun m => sg_67 xs m d _)
def rk_44 : mRf := ((rset rk_43 0 15 115) ++ [List.replicate 2 none])
set_option maxRecDepth 100000 in
theorem sg_68 (xs : List Int) (m d : Nat) (h : mM) : exR PP (CT xs) (m + 4) d k_T_init 77 [mR 0] [mR 115, mR 0] (sk 125, rk_43, h) = exR PP (CT xs) m d k_T_init 81 [mR 0] [mR 125, mR 125, mR 0] (sk 126, rk_44, h) := rfl
def rk_45 : mRf := (rset (rk_44 ++ [[]]) 125 0 126)
def hg_69 (h : mM) : mM := (upM h 125 1 0)
set_option maxRecDepth 100000 in
theorem sg_69 (xs : List Int) (m d : Nat) (h : mM) : exR PP (CT xs) (m + 10) d k_Gl_init 0 [mR 125] [] (sk 126, rk_44, h) = some ([], (sk 127, rk_45, hg_69 h)) := rfl
def mk_23 (h : mM) : mM := (hg_69 h)
theorem i_23 (xs : List Int) (d : Nat) (h : mM) : Fin xs d k_Gl_init 0 [mR 125] [] (sk 126, rk_44, h) ([], (sk 127, rk_45, mk_23 h)) := fin_end (fun m => sg_69 xs m d _)
def rk_46 : mRf := ((rset rk_45 0 16 125) ++ [List.replicate 2 none])
set_option maxRecDepth 100000 in
theorem sg_70 (xs : List Int) (m d : Nat) (h : mM) : exR PP (CT xs) (m + 4) d k_T_init 82 [mR 0] [mR 125, mR 0] (sk 127, rk_45, h) = exR PP (CT xs) m d k_T_init 86 [mR 0] [mR 127, mR 127, mR 0] (sk 128, rk_46, h) := rfl
def rk_47 : mRf := (rset (rk_46 ++ [[]]) 127 0 128)
def hg_71 (h : mM) : mM := (upM h 127 1 0)
set_option maxRecDepth 100000 in
theorem sg_71 (xs : List Int) (m d : Nat) (h : mM) : exR PP (CT xs) (m + 10) d k_Gl_init 0 [mR 127] [] (sk 128, rk_46, h) = some ([], (sk 129, rk_47, hg_71 h)) := rfl
def mk_24 (h : mM) : mM := (hg_71 h)
theorem i_24 (xs : List Int) (d : Nat) (h : mM) : Fin xs d k_Gl_init 0 [mR 127] [] (sk 128, rk_46, h) ([], (sk 129, rk_47, mk_24 h)) := fin_end (fun m => sg_71 xs m d _)
def rk_48 : mRf := (rset ((rset rk_47 0 17 127) ++ [[]]) 0 18 129)
set_option maxRecDepth 100000 in
theorem sg_72 (xs : List Int) (m d : Nat) (h : mM) : exR PP (CT xs) (m + 6) d k_T_init 87 [mR 0] [mR 127, mR 0] (sk 129, rk_47, h) = some ([], (sk 130, rk_48, h)) := rfl
def mk_1 (h : mM) : mM := (mk_24 (mk_23 (mk_21 (mk_20 (mk_19 (mk_18 (mk_11 (mk_9 (mk_7 (mk_6 (mk_5 (mk_4 (mk_3 (mk_2 (hg_2 h)))))))))))))))
theorem i_1 (xs : List Int) (d : Nat) (h : mM) : Fin xs d k_T_init 0 [mR 0] [] (sk 1, rk_1, h) ([], (sk 130, rk_48, mk_1 h)) := fin_seg (fun m => sg_2 xs m d _) <| fin_call (id := 332) (args := [mR 1]) (rest := [mR 1, mR 0]) rfl p_Tr_init rfl rfl rfl rfl (i_2 xs d _) <| fin_seg (fun m => sg_4 xs m d _) <| fin_call (id := 293) (args := [mR 9]) (rest := [mR 9, mR 0]) rfl p_Tp_init rfl rfl rfl rfl (i_3 xs d _) <| fin_seg (fun m => sg_30 xs m d _) <| fin_call (id := 225) (args := [mR 12]) (rest := [mR 12, mR 0]) rfl p_Co_init rfl rfl rfl rfl (i_4 xs d _) <| fin_seg (fun m => sg_32 xs m d _) <| fin_call (id := 225) (args := [mR 21]) (rest := [mR 21, mR 0]) rfl p_Co_init rfl rfl rfl rfl (i_5 xs d _) <| fin_seg (fun m => sg_34 xs m d _) <| fin_call (id := 319) (args := [mR 30]) (rest := [mR 30, mR 0]) rfl p_Ti_init rfl rfl rfl rfl (i_6 xs d _) <| fin_seg (fun m => sg_36 xs m d _) <| fin_call (id := 280) (args := [mR 37, mR 9]) (rest := [mR 37, mR 0]) rfl p_MR_init rfl rfl rfl rfl (i_7 xs d _) <| fin_seg (fun m => sg_40 xs m d _) <| fin_call (id := 323) (args := [mR 47, mR 9]) (rest := [mR 47, mR 0]) rfl p_TR_init rfl rfl rfl rfl (i_9 xs d _) <| fin_seg (fun m => sg_44 xs m d _) <| fin_call (id := 288) (args := [mR 56]) (rest := [mR 56, mR 0]) rfl p_Mk_init rfl rfl rfl rfl (i_11 xs d _) <| fin_seg (fun m => sg_58 xs m d _) <| fin_call (id := 269) (args := [mR 107]) (rest := [mR 107, mR 0]) rfl p_Li_init rfl rfl rfl rfl (i_18 xs d _) <| fin_seg (fun m => sg_60 xs m d _) <| fin_call (id := 269) (args := [mR 109]) (rest := [mR 109, mR 0]) rfl p_Li_init rfl rfl rfl rfl (i_19 xs d _) <| fin_seg (fun m => sg_62 xs m d _) <| fin_call (id := 344) (args := [mR 111]) (rest := [mR 111, mR 0]) rfl p_Wy_init rfl rfl rfl rfl (i_20 xs d _) <| fin_seg (fun m => sg_64 xs m d _) <| fin_call (id := 256) (args := [mR 115]) (rest := [mR 115, mR 0]) rfl p_Ga_init rfl rfl rfl rfl (i_21 xs d _) <| fin_seg (fun m => sg_68 xs m d _) <| fin_call (id := 264) (args := [mR 125]) (rest := [mR 125, mR 0]) rfl p_Gl_init rfl rfl rfl rfl (i_23 xs d _) <| fin_seg (fun m => sg_70 xs m d _) <| fin_call (id := 264) (args := [mR 127]) (rest := [mR 127, mR 0]) rfl p_Gl_init rfl rfl rfl rfl (i_24 xs d _) <| fin_end (fun m => sg_72 xs m d _)
def rk_49 : mRf := (rk_48 ++ [List.replicate 46 none])
set_option maxRecDepth 100000 in
theorem sg_73 (xs : List Int) (m d : Nat) (h : mM) : exR PP (CT xs) (m + 3) d k_L_law 3 [mC 1, mC 0, mC 0, mC 0] [mR 0] (sk 130, rk_48, h) = exR PP (CT xs) m d k_L_law 6 [mC 1, mR 0, mC 0, mC 0] [mR 130, mR 130] (sk 131, rk_49, h) := rfl
def rk_50 : mRf := (rset ((rset ((rset ((rset ((rset ((rset ((rset ((rset ((rset ((rset ((rset ((rset ((rset ((rset ((rset ((rset ((rset ((rset ((rset ((rset ((rset ((rset (rk_49 ++ [[]]) 130 0 131) ++ [[]]) 130 1 132) ++ [[]]) 130 5 133) ++ [[]]) 130 6 134) ++ [[]]) 130 7 135) ++ [[]]) 130 8 136) ++ [[]]) 130 9 137) ++ [[]]) 130 21 138) ++ [[]]) 130 24 139) ++ [[]]) 130 25 140) ++ [[]]) 130 28 141) ++ [[]]) 130 30 142) ++ [[]]) 130 31 143) ++ [[]]) 130 32 144) ++ [[]]) 130 33 145) ++ [[]]) 130 35 146) ++ [[]]) 130 36 147) ++ [[]]) 130 37 148) ++ [[]]) 130 38 149) ++ [[]]) 130 41 150) ++ [[]]) 130 42 151) ++ [[]]) 130 43 152)
def hg_74 (h : mM) : mM := (upM (upM (upM (upM (upM (upM (upM h 130 4 1) 134 0 (-1)) 134 1 (-1)) 134 2 (-1)) 134 3 (-1)) 130 16 (-1)) 130 17 (-1))
set_option maxRecDepth 100000 in
theorem sg_74 (xs : List Int) (m d : Nat) (h : mM) : exR PP (CT xs) (m + 117) d k_M_init 0 [mR 130] [] (sk 131, rk_49, h) = exR PP (CT xs) m d k_M_init 117 [mR 130] [mI 0, mR 130] (sk 153, rk_50, hg_74 h) := rfl
set_option maxRecDepth 100000 in
theorem sg_75 (xs : List Int) (m d : Nat) (h : mM) : exR PP (CT xs) (m + 1) d k_M_init 118 [mR 130] [] (sk 153, rk_50, h) = some ([], (sk 153, rk_50, h)) := rfl
def mk_25 (H77 : mM → mM) (h : mM) : mM := (H77 (hg_74 h))
set_option maxRecDepth 100000 in
theorem sg_76 (xs : List Int) (m d : Nat) (h : mM) : exR PP (CT xs) (m + 3) d k_L_law 7 [mC 1, mR 0, mC 0, mC 0] [mR 130] (sk 153, rk_50, h) = exR PP (CT xs) m d k_L_law 10 [mC 1, mR 0, mR 130, mI 0] [] (sk 153, rk_50, h) := rfl
def mk_0 (h : mM) : mM := (mk_25 (mk_1 h))
