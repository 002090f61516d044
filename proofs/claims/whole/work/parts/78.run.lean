/-! the start: the law's run -/
theorem sk_all : sk 153 = S0 := by decide +kernel
theorem rq_all : rq 153 [] = R0 := by decide +kernel
abbrev zM : mM := fun _ _ => 0
section
variable {xs : List Int} {d : Nat}
theorem fin_of_X {c : mCode} {j : Nat} {ls st : List mv} {h h' : mM} {v : List mv} (e : X xs d c j ls st h = some (v, h')) : FinR xs d c j ls st (S0, R0, h) (v, (S0, R0, h')) := by
  obtain ⟨n, hn⟩ := (Ex_iff PP S0 R0 (CT xs)).mp e
  obtain ⟨n0, h0⟩ := exN_ev PP S0 R0 (CT xs) n d c j ls st h _ hn
  exact ⟨n0, fun k hk => exR_of PP S0 R0 (CT xs) k d c j ls st h _ (h0 k hk)⟩
theorem fin_of_C {id nl : Nat} {c : mCode} {a L : List mv} {h h' : mM} {v : List mv} (hp : PP id = (c, nl)) (hL : mPad nl (mEntry a) = L) (e : C xs d id 0 a h = some (v, h')) : FinR xs d c 0 L [] (S0, R0, h) (v, (S0, R0, h')) := by
  rw [C_in xs d id hp, hL] at e
  exact fin_of_X e
theorem i_M (h : mM) : ∃ g', FinR xs d k_M_init 0 [mR 130] [] ((sk 131), (rq 131 [(130, [none, none, none, none, none, none, none, none, none, none, none, none, none, none, none, none, none, none, none, none, none, none, none, none, none, none, none, none, none, none, none, none, none, none, none, none, none, none, none, none, none, none, none, none, none, none])]), h) ([], ((sk 153), (rq 153 []), g')) ∧ (∀ a, a ≠ 131 → g' a = mkM h a) ∧ ∀ j, 0 ≤ j → j < 414 → g' 131 (0 + j) = plV j := by
  obtain ⟨g', e, f1, -, f3⟩ := m_plain (xs := xs) (d := d) (g := mkM h) (s := 0) ⟨by omega, by omega⟩
  refine ⟨g', ?_, f1, f3⟩
  refine fin_seg (fun m => sg_201 xs m d _) ?_
  refine fin_norm (S := (sk 132)) (R := (rq 132 [(130, [none, none, none, none, none, none, none, none, none, none, none, none, none, none, none, none, none, none, none, none, none, none, none, none, none, none, none, none, none, none, none, none, none, none, none, none, none, none, none, none, none, none, none, none, none, none])])) (by decide +kernel) (by decide +kernel) ?_
  refine fin_seg (fun m => sg_202 xs m d _) ?_
  refine fin_norm (S := (sk 133)) (R := (rq 133 [(130, [some 131, none, none, none, none, none, none, none, none, none, none, none, none, none, none, none, none, none, none, none, none, none, none, none, none, none, none, none, none, none, none, none, none, none, none, none, none, none, none, none, none, none, none, none, none, none])])) (by decide +kernel) (by decide +kernel) ?_
  refine fin_seg (fun m => sg_203 xs m d _) ?_
  refine fin_norm (S := (sk 134)) (R := (rq 134 [(130, [some 131, some 132, none, none, none, none, none, none, none, none, none, none, none, none, none, none, none, none, none, none, none, none, none, none, none, none, none, none, none, none, none, none, none, none, none, none, none, none, none, none, none, none, none, none, none, none])])) (by decide +kernel) (by decide +kernel) ?_
  refine fin_seg (fun m => sg_204 xs m d _) ?_
  refine fin_norm (S := (sk 135)) (R := (rq 135 [(130, [some 131, some 132, none, none, none, some 133, none, none, none, none, none, none, none, none, none, none, none, none, none, none, none, none, none, none, none, none, none, none, none, none, none, none, none, none, none, none, none, none, none, none, none, none, none, none, none, none])])) (by decide +kernel) (by decide +kernel) ?_
  refine fin_seg (fun m => sg_205 xs m d _) ?_
  refine fin_norm (S := (sk 136)) (R := (rq 136 [(130, [some 131, some 132, none, none, none, some 133, some 134, none, none, none, none, none, none, none, none, none, none, none, none, none, none, none, none, none, none, none, none, none, none, none, none, none, none, none, none, none, none, none, none, none, none, none, none, none, none, none])])) (by decide +kernel) (by decide +kernel) ?_
  refine fin_seg (fun m => sg_206 xs m d _) ?_
  refine fin_norm (S := (sk 137)) (R := (rq 137 [(130, [some 131, some 132, none, none, none, some 133, some 134, some 135, none, none, none, none, none, none, none, none, none, none, none, none, none, none, none, none, none, none, none, none, none, none, none, none, none, none, none, none, none, none, none, none, none, none, none, none, none, none])])) (by decide +kernel) (by decide +kernel) ?_
  refine fin_seg (fun m => sg_207 xs m d _) ?_
  refine fin_norm (S := (sk 138)) (R := (rq 138 [(130, [some 131, some 132, none, none, none, some 133, some 134, some 135, some 136, none, none, none, none, none, none, none, none, none, none, none, none, none, none, none, none, none, none, none, none, none, none, none, none, none, none, none, none, none, none, none, none, none, none, none, none, none])])) (by decide +kernel) (by decide +kernel) ?_
  refine fin_seg (fun m => sg_208 xs m d _) ?_
  refine fin_norm (S := (sk 139)) (R := (rq 139 [(130, [some 131, some 132, none, none, none, some 133, some 134, some 135, some 136, some 137, none, none, none, none, none, none, none, none, none, none, none, none, none, none, none, none, none, none, none, none, none, none, none, none, none, none, none, none, none, none, none, none, none, none, none, none])])) (by decide +kernel) (by decide +kernel) ?_
  refine fin_seg (fun m => sg_209 xs m d _) ?_
  refine fin_norm (S := (sk 140)) (R := (rq 140 [(130, [some 131, some 132, none, none, none, some 133, some 134, some 135, some 136, some 137, none, none, none, none, none, none, none, none, none, none, none, some 138, none, none, none, none, none, none, none, none, none, none, none, none, none, none, none, none, none, none, none, none, none, none, none, none])])) (by decide +kernel) (by decide +kernel) ?_
  refine fin_seg (fun m => sg_210 xs m d _) ?_
  refine fin_norm (S := (sk 141)) (R := (rq 141 [(130, [some 131, some 132, none, none, none, some 133, some 134, some 135, some 136, some 137, none, none, none, none, none, none, none, none, none, none, none, some 138, none, none, some 139, none, none, none, none, none, none, none, none, none, none, none, none, none, none, none, none, none, none, none, none, none])])) (by decide +kernel) (by decide +kernel) ?_
  refine fin_seg (fun m => sg_211 xs m d _) ?_
  refine fin_norm (S := (sk 142)) (R := (rq 142 [(130, [some 131, some 132, none, none, none, some 133, some 134, some 135, some 136, some 137, none, none, none, none, none, none, none, none, none, none, none, some 138, none, none, some 139, some 140, none, none, none, none, none, none, none, none, none, none, none, none, none, none, none, none, none, none, none, none])])) (by decide +kernel) (by decide +kernel) ?_
  refine fin_seg (fun m => sg_212 xs m d _) ?_
  refine fin_norm (S := (sk 143)) (R := (rq 143 [(130, [some 131, some 132, none, none, none, some 133, some 134, some 135, some 136, some 137, none, none, none, none, none, none, none, none, none, none, none, some 138, none, none, some 139, some 140, none, none, some 141, none, none, none, none, none, none, none, none, none, none, none, none, none, none, none, none, none])])) (by decide +kernel) (by decide +kernel) ?_
  refine fin_seg (fun m => sg_213 xs m d _) ?_
  refine fin_norm (S := (sk 144)) (R := (rq 144 [(130, [some 131, some 132, none, none, none, some 133, some 134, some 135, some 136, some 137, none, none, none, none, none, none, none, none, none, none, none, some 138, none, none, some 139, some 140, none, none, some 141, none, some 142, none, none, none, none, none, none, none, none, none, none, none, none, none, none, none])])) (by decide +kernel) (by decide +kernel) ?_
  refine fin_seg (fun m => sg_214 xs m d _) ?_
  refine fin_norm (S := (sk 145)) (R := (rq 145 [(130, [some 131, some 132, none, none, none, some 133, some 134, some 135, some 136, some 137, none, none, none, none, none, none, none, none, none, none, none, some 138, none, none, some 139, some 140, none, none, some 141, none, some 142, some 143, none, none, none, none, none, none, none, none, none, none, none, none, none, none])])) (by decide +kernel) (by decide +kernel) ?_
  refine fin_seg (fun m => sg_215 xs m d _) ?_
  refine fin_norm (S := (sk 146)) (R := (rq 146 [(130, [some 131, some 132, none, none, none, some 133, some 134, some 135, some 136, some 137, none, none, none, none, none, none, none, none, none, none, none, some 138, none, none, some 139, some 140, none, none, some 141, none, some 142, some 143, some 144, none, none, none, none, none, none, none, none, none, none, none, none, none])])) (by decide +kernel) (by decide +kernel) ?_
  refine fin_seg (fun m => sg_216 xs m d _) ?_
  refine fin_norm (S := (sk 147)) (R := (rq 147 [(130, [some 131, some 132, none, none, none, some 133, some 134, some 135, some 136, some 137, none, none, none, none, none, none, none, none, none, none, none, some 138, none, none, some 139, some 140, none, none, some 141, none, some 142, some 143, some 144, some 145, none, none, none, none, none, none, none, none, none, none, none, none])])) (by decide +kernel) (by decide +kernel) ?_
  refine fin_seg (fun m => sg_217 xs m d _) ?_
  refine fin_norm (S := (sk 148)) (R := (rq 148 [(130, [some 131, some 132, none, none, none, some 133, some 134, some 135, some 136, some 137, none, none, none, none, none, none, none, none, none, none, none, some 138, none, none, some 139, some 140, none, none, some 141, none, some 142, some 143, some 144, some 145, none, some 146, none, none, none, none, none, none, none, none, none, none])])) (by decide +kernel) (by decide +kernel) ?_
  refine fin_seg (fun m => sg_218 xs m d _) ?_
  refine fin_norm (S := (sk 149)) (R := (rq 149 [(130, [some 131, some 132, none, none, none, some 133, some 134, some 135, some 136, some 137, none, none, none, none, none, none, none, none, none, none, none, some 138, none, none, some 139, some 140, none, none, some 141, none, some 142, some 143, some 144, some 145, none, some 146, some 147, none, none, none, none, none, none, none, none, none])])) (by decide +kernel) (by decide +kernel) ?_
  refine fin_seg (fun m => sg_219 xs m d _) ?_
  refine fin_norm (S := (sk 150)) (R := (rq 150 [(130, [some 131, some 132, none, none, none, some 133, some 134, some 135, some 136, some 137, none, none, none, none, none, none, none, none, none, none, none, some 138, none, none, some 139, some 140, none, none, some 141, none, some 142, some 143, some 144, some 145, none, some 146, some 147, some 148, none, none, none, none, none, none, none, none])])) (by decide +kernel) (by decide +kernel) ?_
  refine fin_seg (fun m => sg_220 xs m d _) ?_
  refine fin_norm (S := (sk 151)) (R := (rq 151 [(130, [some 131, some 132, none, none, none, some 133, some 134, some 135, some 136, some 137, none, none, none, none, none, none, none, none, none, none, none, some 138, none, none, some 139, some 140, none, none, some 141, none, some 142, some 143, some 144, some 145, none, some 146, some 147, some 148, some 149, none, none, none, none, none, none, none])])) (by decide +kernel) (by decide +kernel) ?_
  refine fin_seg (fun m => sg_221 xs m d _) ?_
  refine fin_norm (S := (sk 152)) (R := (rq 152 [(130, [some 131, some 132, none, none, none, some 133, some 134, some 135, some 136, some 137, none, none, none, none, none, none, none, none, none, none, none, some 138, none, none, some 139, some 140, none, none, some 141, none, some 142, some 143, some 144, some 145, none, some 146, some 147, some 148, some 149, none, none, some 150, none, none, none, none])])) (by decide +kernel) (by decide +kernel) ?_
  refine fin_seg (fun m => sg_222 xs m d _) ?_
  refine fin_norm (S := (sk 153)) (R := (rq 153 [(130, [some 131, some 132, none, none, none, some 133, some 134, some 135, some 136, some 137, none, none, none, none, none, none, none, none, none, none, none, some 138, none, none, some 139, some 140, none, none, some 141, none, some 142, some 143, some 144, some 145, none, some 146, some 147, some 148, some 149, none, none, some 150, some 151, none, none, none])])) (by decide +kernel) (by decide +kernel) ?_
  refine fin_seg (fun m => sg_223 xs m d _) ?_
  refine fin_norm (S := (sk 153)) (R := (rq 153 [])) (by decide +kernel) (by decide +kernel) ?_
  refine fin_norm (S := S0) (R := R0) sk_all rq_all ?_
  refine fin_call (id := 77) (args := [mR 130, mI 0]) (rest := []) rfl p_M_plain rfl rfl rfl rfl (fin_of_C p_M_plain rfl e) ?_
  refine fin_norm (S := (sk 153)) (R := (rq 153 [])) sk_all.symm rq_all.symm ?_
  refine fin_end (fun m => sg_224 xs m d _)
theorem k_0 : mkM (mk_1 zM) 0 0 = 0 ∧ mkM (mk_1 zM) 130 2 = 0 ∧ mkM (mk_1 zM) 0 1 = mkM (mk_1 zM) 130 3 ∧ mkM (mk_1 zM) 0 2 = mkM (mk_1 zM) 130 4 ∧ mkM (mk_1 zM) 9 2 = 0 ∧ mkM (mk_1 zM) 130 10 = 0 ∧ mkM (mk_1 zM) 9 11 = mkM (mk_1 zM) 130 16 ∧ mkM (mk_1 zM) 9 12 = mkM (mk_1 zM) 130 17 := by decide +kernel
theorem k_1 : mkM (mk_1 zM) 56 2 = 0 ∧ mkM (mk_1 zM) 130 45 = 0 ∧ mkM (mk_1 zM) 0 3 = 0 ∧ mkM (mk_1 zM) 130 44 = 0 ∧ mkM (mk_1 zM) 107 7 = 0 := by decide +kernel
theorem k_2 : ∀ t : Nat, t < 4 → mkM (mk_1 zM) 7 (t : Int) = 0 ∧ mkM (mk_1 zM) 133 (t : Int) = 0 ∧ mkM (mk_1 zM) 8 (t : Int) = -1 ∧ mkM (mk_1 zM) 134 (t : Int) = -1 := by decide +kernel
theorem k_3 : mkM (mk_1 zM) 12 0 = 0 ∧ mkM (mk_1 zM) 12 1 = 0 ∧ mkM (mk_1 zM) 30 8 = 0 ∧ mkM (mk_1 zM) 30 6 = 0 ∧ mkM (mk_1 zM) 30 7 = 0 := by decide +kernel
theorem k_4 : ∀ t : Nat, t < 7 → 1 ≤ t → mkM (mk_1 zM) 13 (t : Int) = plV (t : Int) := by decide +kernel
theorem k_5 : ∀ t : Nat, t < 24 → 1 ≤ t → mkM (mk_1 zM) 11 (t : Int) = (nth WL t).getD 0 := by decide +kernel
theorem k_6 (j : Int) : mkM (mk_1 zM) 150 j = 0 := rfl
theorem rel_0 {h : mM} (f1 : ∀ a, a ≠ 131 → h a = mkM (mk_1 zM) a) (f3 : ∀ j, 0 ≤ j → j < 414 → h 131 (0 + j) = plV j) : Rel h := by
  obtain ⟨a1, a2, a3, a4, a5, a6, a7, a8⟩ := k_0
  obtain ⟨b1, b2, b3, b4, b5⟩ := k_1
  obtain ⟨c1, c2, c3, c4, c5⟩ := k_3
  have z0 : kc0 0 0 = 0 := rfl
  have pv : ∀ j, 0 ≤ j → j < 414 → h 131 j = plV j := fun j h1 h2 => by
    have := f3 j h1 h2
    rwa [Int.zero_add] at this
  refine ⟨?_, ⟨?_, ?_⟩, ?_, ⟨?_, ?_, ?_⟩, ⟨?_, ?_⟩, ⟨kc0, ?_⟩, ⟨?_, ?_, ?_⟩, ⟨?_, ?_, ?_, ?_⟩, ?_, ?_⟩
  · rw [f1 0 (by omega), f1 130 (by omega), a1, a2]
  · rw [f1 0 (by omega), f1 130 (by omega), a3]
  · rw [f1 0 (by omega), f1 130 (by omega), a4]
  · intro t ht
    obtain ⟨e1, e2, e3, e4⟩ := k_2 t ht
    rw [f1 7 (by omega), f1 8 (by omega), f1 133 (by omega), f1 134 (by omega), e1, e2, e3, e4]
    exact ⟨rfl, rfl, ⟨by omega, by omega⟩, ⟨by omega, by omega⟩, fun i h1 h2 => by omega⟩
  · rw [f1 9 (by omega), f1 130 (by omega), a5, a6]
  · rw [f1 9 (by omega), a5]; omega
  · intro i h1 h2
    rw [f1 9 (by omega), a5] at h2
    omega
  · rw [f1 9 (by omega), f1 130 (by omega), a7]
  · rw [f1 9 (by omega), f1 130 (by omega), a8]
  · refine ⟨?_, CoM.z.mpr ?_, kc0_wf, by decide, fun p h1 h2 => absurd h2 (by rw [z0]; omega), ?_⟩
    · refine ⟨?_, ?_, fun i h1 h2 => ?_, fun i a b => absurd b (by omega), fun i a b => absurd b (by omega), fun i a b => absurd b (by omega), fun i a b => absurd b (by omega), fun i a b => absurd b (by omega)⟩
      · rw [f1 12 (by omega), c1]; rfl
      · rw [f1 12 (by omega), c2]; rfl
      · rw [f1 (12 + 1) (by omega)]
        obtain ⟨t, rfl⟩ : ∃ t : Nat, i = (t : Int) := ⟨i.toNat, by omega⟩
        exact (k_4 t (by omega) (by omega)).trans rfl
    · exact ⟨(pv 0 (by omega) (by omega)).trans rfl, (pv 7 (by omega) (by omega)).trans rfl, fun i a b => (pv i (by omega) (by omega)).trans rfl, fun i a b => absurd b (by omega), fun i a b => absurd b (by omega), fun i a b => absurd b (by omega), fun i a b => absurd b (by omega), fun i a b => absurd b (by omega)⟩
    · unfold TiR
      rw [f1 30 (by omega), c3, c4, c5]
      refine ⟨Or.inl rfl, ?_, ⟨by omega, by omega⟩, ⟨by omega, by omega⟩, fun q => absurd q (by omega)⟩
      rw [if_neg (by omega)]
      exact (f3 8 (by omega) (by omega)).trans rfl
  · rw [f1 56 (by omega), f1 130 (by omega), b1, b2]
  · rw [f1 56 (by omega), b1]; omega
  · intro j hj
    rw [f1 56 (by omega), b1] at hj
    omega
  · rw [f1 0 (by omega), f1 130 (by omega), b3, b4]
  · rw [f1 0 (by omega), b3]; exact Or.inl rfl
  · rw [f1 107 (by omega), b5]; exact Or.inl rfl
  · intro q
    rw [f1 0 (by omega), b3] at q
    exact absurd q (by omega)
  · intro i h1 h2
    rw [f1 11 (by omega)]
    obtain ⟨t, rfl⟩ : ∃ t : Nat, i = (t : Int) := ⟨i.toNat, by omega⟩
    exact k_5 t (by omega) (by omega)
  · intro j
    rw [f1 150 (by omega), k_6]
    exact ⟨by omega, by omega⟩
end
theorem run_law {xs : List Int} (hl : xs.length ≤ 3072) (hv : ∀ v ∈ xs, inI v) : ∃ n h', exR PP (CT xs) n 4 (PP 357).1 0 [mC 1, mC 0, mC 0, mC 0] [] ([], [], fun _ _ => 0) = some ([mI 1], (S0, R0, h')) := by
  obtain ⟨g, e, f1, f3⟩ := i_M (xs := xs) (d := 4) (mk_1 zM)
  obtain ⟨h', eX⟩ := law_loop (d := 0) hl hv (xs.length + 1) 0 g (rel_0 f1 f3) (by omega) (by omega) (by omega)
  suffices q : FinR xs 4 k_L_law 0 [mC 1, mC 0, mC 0, mC 0] [] ([], [], zM) ([mI 1], (S0, R0, h')) by
    obtain ⟨n0, q⟩ := q
    exact ⟨n0, h', by rw [p_L_law]; exact q n0 (Nat.le_refl _)⟩
  refine fin_norm (S := (sk 0)) (R := (rq 0 [])) rfl rfl ?_
  refine fin_seg (fun m => sg_1 xs m 4 _) ?_
  refine fin_norm (S := (sk 1)) (R := (rq 1 [(0, [none, none, none, none, none, none, none, none, none, none, none, none, none, none, none, none, none, none, none])])) (by decide +kernel) (by decide +kernel) ?_
  refine fin_seg (fun m => sg_2 xs m 4 _) ?_
  refine fin_call (id := 1) (args := [mR 0]) (rest := [mR 0]) rfl p_T_init rfl rfl rfl rfl (i_1 xs 4 _) ?_
  refine fin_seg (fun m => sg_199 xs m 4 _) ?_
  refine fin_norm (S := (sk 131)) (R := (rq 131 [(130, [none, none, none, none, none, none, none, none, none, none, none, none, none, none, none, none, none, none, none, none, none, none, none, none, none, none, none, none, none, none, none, none, none, none, none, none, none, none, none, none, none, none, none, none, none, none])])) (by decide +kernel) (by decide +kernel) ?_
  refine fin_seg (fun m => sg_200 xs m 4 _) ?_
  refine fin_call (id := 76) (args := [mR 130]) (rest := [mR 130]) rfl p_M_init rfl rfl rfl rfl e ?_
  refine fin_seg (fun m => sg_225 xs m 4 _) ?_
  refine fin_norm (S := S0) (R := R0) sk_all rq_all ?_
  exact fin_of_X eX
