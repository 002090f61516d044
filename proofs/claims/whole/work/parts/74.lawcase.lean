/-! the law's cases: each pair of calls comes back to the loop's end -/
def Lg (xs : List Int) (x : Int) : Prop := 0 ≤ x ∧ x + 6 ≤ (xs.length : Int) ∧ xs.length ≤ 3072 ∧ ∀ v ∈ xs, inI v
theorem Lg.a {xs : List Int} {x : Int} (G : Lg xs x) (k : Int) (h0 : 0 ≤ k) (h5 : k ≤ 5) : inA (x + k) (CT xs 1).length := by
  obtain ⟨g1, g2, -, -⟩ := G
  show 0 ≤ x + k ∧ x + k < (xs.length : Int)
  omega
theorem Lg.i {xs : List Int} {x : Int} (G : Lg xs x) (k : Int) (h0 : 0 ≤ k) (h5 : k ≤ 5) : inI (x + k) := by
  obtain ⟨g1, g2, g3, -⟩ := G
  exact ⟨by omega, by omega⟩
theorem nth_inI {xs : List Int} (h : ∀ v ∈ xs, inI v) (n : Nat) : inI ((nth xs n).getD 0) := by
  induction xs generalizing n with
  | nil => exact ⟨by show (-2147483648 : Int) ≤ 0; omega, by show (0 : Int) ≤ 2147483647; omega⟩
  | cons a l ih =>
    cases n with
    | zero => exact h a (List.mem_cons_self ..)
    | succ n => exact ih (fun v hv => h v (List.mem_cons_of_mem _ hv)) n
theorem Lg.v {xs : List Int} {x : Int} (G : Lg xs x) (k : Int) : inI ((nth (CT xs 1) (x + k).toNat).getD 0) := nth_inI G.2.2.2 _
theorem cI_s {ρ : Type} (v : Int) (h : mM) (K : Int → mM → Option ρ) : cI (some ([mI v], h)) K = K v h := rfl
theorem cL_s {ρ : Type} (v : Int) (h : mM) (K : Int → mM → Option ρ) : cL (some ([mL v], h)) K = K v h := rfl
theorem fLor_inL (x y : Int) : inL (fLor x y) := by
  have h1 := (Int64.ofInt x ||| Int64.ofInt y).le_toInt
  have h2 := (Int64.ofInt x ||| Int64.ofInt y).toInt_lt
  unfold fLor
  exact ⟨by omega, by omega⟩
def Wk (xs : List Int) (d : Nat) (x : Int) (h : mM) (j : Nat) : Prop := ∃ h', Rel h' ∧ X xs (d + 4) k_L_law j [mC 1, mR 0, mR 130, mI x] [] h = X xs (d + 4) k_L_law 1227 [mC 1, mR 0, mR 130, mI x] [] h'
section
variable {xs : List Int} {d : Nat} {x : Int} {h : mM}
theorem w_22 (R : Rel h) (G : Lg xs x) : Wk xs d x h 22 := by
  obtain ⟨v, h1, h2, e1, e2, R2⟩ := q_status (xs := xs) (d := d + 4) R 
  refine ⟨h2, R2, ?_⟩
  rw [e_L_law_22, e1, cI_s, e2, cI_s, if_pos rfl]
theorem w_29 (R : Rel h) (G : Lg xs x) : Wk xs d x h 29 := by
  obtain ⟨v, h1, h2, e1, e2, R2⟩ := q_top (xs := xs) (d := d + 4) R 
  refine ⟨h2, R2, ?_⟩
  rw [e_L_law_29, e1, cL_s, e2, cL_s, if_pos rfl]
theorem w_37 (R : Rel h) (G : Lg xs x) : Wk xs d x h 37 := by
  obtain ⟨v, h1, h2, e1, e2, R2⟩ := q_bottom (xs := xs) (d := d + 4) R 
  refine ⟨h2, R2, ?_⟩
  rw [e_L_law_37, e1, cL_s, e2, cL_s, if_pos rfl]
theorem w_45 (R : Rel h) (G : Lg xs x) : Wk xs d x h 45 := by
  obtain ⟨v, h1, h2, e1, e2, R2⟩ := q_tray (xs := xs) (d := d + 4) R ((nth (CT xs 1) (x + 1).toNat).getD 0) ((nth (CT xs 1) (x + 2).toNat).getD 0) ((nth (CT xs 1) (x + 3).toNat).getD 0)
  refine ⟨h2, R2, ?_⟩
  rw [e_L_law_45, if_pos (G.i 1 (by omega) (by omega)), if_pos (G.a 1 (by omega) (by omega)), if_pos (G.i 2 (by omega) (by omega)), if_pos (G.a 2 (by omega) (by omega)), if_pos (G.i 3 (by omega) (by omega)), if_pos (G.a 3 (by omega) (by omega)), e1, cI_s, if_pos (G.i 1 (by omega) (by omega)), if_pos (G.a 1 (by omega) (by omega)), if_pos (G.i 2 (by omega) (by omega)), if_pos (G.a 2 (by omega) (by omega)), if_pos (G.i 3 (by omega) (by omega)), if_pos (G.a 3 (by omega) (by omega)), e2, cI_s, if_pos rfl]
theorem w_82 (R : Rel h) (G : Lg xs x) : Wk xs d x h 82 := by
  obtain ⟨v, h1, h2, e1, e2, R2⟩ := q_write (xs := xs) (d := d + 4) R ((nth (CT xs 1) (x + 1).toNat).getD 0) ((nth (CT xs 1) (x + 2).toNat).getD 0) (fLor (fLshl ((nth (CT xs 1) (x + 3).toNat).getD 0) 32) (fLand ((nth (CT xs 1) (x + 4).toNat).getD 0) 4294967295)) (fLor_inL _ _)
  refine ⟨h2, R2, ?_⟩
  rw [e_L_law_82, if_pos (G.i 1 (by omega) (by omega)), if_pos (G.a 1 (by omega) (by omega)), if_pos (G.i 2 (by omega) (by omega)), if_pos (G.a 2 (by omega) (by omega)), if_pos (G.i 3 (by omega) (by omega)), if_pos (G.a 3 (by omega) (by omega)), if_pos (G.i 4 (by omega) (by omega)), if_pos (G.a 4 (by omega) (by omega)), e1, cI_s, if_pos (G.i 1 (by omega) (by omega)), if_pos (G.a 1 (by omega) (by omega)), if_pos (G.i 2 (by omega) (by omega)), if_pos (G.a 2 (by omega) (by omega)), if_pos (G.i 3 (by omega) (by omega)), if_pos (G.a 3 (by omega) (by omega)), if_pos (G.i 4 (by omega) (by omega)), if_pos (G.a 4 (by omega) (by omega)), e2, cI_s, if_pos rfl]
theorem w_143 (R : Rel h) (G : Lg xs x) : Wk xs d x h 143 := by
  obtain ⟨v, h1, h2, e1, e2, R2⟩ := q_read (xs := xs) (d := d + 4) R ((nth (CT xs 1) (x + 1).toNat).getD 0) ((nth (CT xs 1) (x + 2).toNat).getD 0)
  refine ⟨h2, R2, ?_⟩
  rw [e_L_law_143, if_pos (G.i 1 (by omega) (by omega)), if_pos (G.a 1 (by omega) (by omega)), if_pos (G.i 2 (by omega) (by omega)), if_pos (G.a 2 (by omega) (by omega)), e1, cL_s, if_pos (G.i 1 (by omega) (by omega)), if_pos (G.a 1 (by omega) (by omega)), if_pos (G.i 2 (by omega) (by omega)), if_pos (G.a 2 (by omega) (by omega)), e2, cL_s, if_pos rfl]
theorem w_171 (R : Rel h) (G : Lg xs x) : Wk xs d x h 171 := by
  obtain ⟨v, h1, h2, e1, e2, R2⟩ := q_pour (xs := xs) (d := d + 4) R ((nth (CT xs 1) (x + 1).toNat).getD 0) ((nth (CT xs 1) (x + 2).toNat).getD 0) ((nth (CT xs 1) (x + 3).toNat).getD 0) ((nth (CT xs 1) (x + 4).toNat).getD 0) ((nth (CT xs 1) (x + 5).toNat).getD 0) (G.v 2) (G.v 4) (G.v 5)
  refine ⟨h2, R2, ?_⟩
  rw [e_L_law_171, if_pos (G.i 1 (by omega) (by omega)), if_pos (G.a 1 (by omega) (by omega)), if_pos (G.i 2 (by omega) (by omega)), if_pos (G.a 2 (by omega) (by omega)), if_pos (G.i 3 (by omega) (by omega)), if_pos (G.a 3 (by omega) (by omega)), if_pos (G.i 4 (by omega) (by omega)), if_pos (G.a 4 (by omega) (by omega)), if_pos (G.i 5 (by omega) (by omega)), if_pos (G.a 5 (by omega) (by omega)), e1, cI_s, if_pos (G.i 1 (by omega) (by omega)), if_pos (G.a 1 (by omega) (by omega)), if_pos (G.i 2 (by omega) (by omega)), if_pos (G.a 2 (by omega) (by omega)), if_pos (G.i 3 (by omega) (by omega)), if_pos (G.a 3 (by omega) (by omega)), if_pos (G.i 4 (by omega) (by omega)), if_pos (G.a 4 (by omega) (by omega)), if_pos (G.i 5 (by omega) (by omega)), if_pos (G.a 5 (by omega) (by omega)), e2, cI_s, if_pos rfl]
theorem w_228 (R : Rel h) (G : Lg xs x) : Wk xs d x h 228 := by
  obtain ⟨v, h1, h2, e1, e2, R2⟩ := q_feed (xs := xs) (d := d + 4) R ((nth (CT xs 1) (x + 1).toNat).getD 0) ((nth (CT xs 1) (x + 2).toNat).getD 0) ((nth (CT xs 1) (x + 3).toNat).getD 0) ((nth (CT xs 1) (x + 4).toNat).getD 0) ((nth (CT xs 1) (x + 5).toNat).getD 0)
  refine ⟨h2, R2, ?_⟩
  rw [e_L_law_228, if_pos (G.i 1 (by omega) (by omega)), if_pos (G.a 1 (by omega) (by omega)), if_pos (G.i 2 (by omega) (by omega)), if_pos (G.a 2 (by omega) (by omega)), if_pos (G.i 3 (by omega) (by omega)), if_pos (G.a 3 (by omega) (by omega)), if_pos (G.i 4 (by omega) (by omega)), if_pos (G.a 4 (by omega) (by omega)), if_pos (G.i 5 (by omega) (by omega)), if_pos (G.a 5 (by omega) (by omega)), e1, cI_s, if_pos (G.i 1 (by omega) (by omega)), if_pos (G.a 1 (by omega) (by omega)), if_pos (G.i 2 (by omega) (by omega)), if_pos (G.a 2 (by omega) (by omega)), if_pos (G.i 3 (by omega) (by omega)), if_pos (G.a 3 (by omega) (by omega)), if_pos (G.i 4 (by omega) (by omega)), if_pos (G.a 4 (by omega) (by omega)), if_pos (G.i 5 (by omega) (by omega)), if_pos (G.a 5 (by omega) (by omega)), e2, cI_s, if_pos rfl]
theorem w_285 (R : Rel h) (G : Lg xs x) : Wk xs d x h 285 := by
  obtain ⟨v, h1, h2, e1, e2, R2⟩ := q_map (xs := xs) (d := d + 4) R ((nth (CT xs 1) (x + 1).toNat).getD 0)
  refine ⟨h2, R2, ?_⟩
  rw [e_L_law_285, if_pos (G.i 1 (by omega) (by omega)), if_pos (G.a 1 (by omega) (by omega)), e1, cI_s, if_pos (G.i 1 (by omega) (by omega)), if_pos (G.a 1 (by omega) (by omega)), e2, cI_s, if_pos rfl]
theorem w_302 (R : Rel h) (G : Lg xs x) : Wk xs d x h 302 := by
  obtain ⟨v, h1, h2, e1, e2, R2⟩ := q_times (xs := xs) (d := d + 4) R ((nth (CT xs 1) (x + 1).toNat).getD 0)
  refine ⟨h2, R2, ?_⟩
  rw [e_L_law_302, if_pos (G.i 1 (by omega) (by omega)), if_pos (G.a 1 (by omega) (by omega)), e1, cI_s, if_pos (G.i 1 (by omega) (by omega)), if_pos (G.a 1 (by omega) (by omega)), e2, cI_s, if_pos rfl]
theorem w_319 (R : Rel h) (G : Lg xs x) : Wk xs d x h 319 := by
  obtain ⟨v, h1, h2, e1, e2, R2⟩ := q_fault (xs := xs) (d := d + 4) R ((nth (CT xs 1) (x + 1).toNat).getD 0)
  refine ⟨h2, R2, ?_⟩
  rw [e_L_law_319, if_pos (G.i 1 (by omega) (by omega)), if_pos (G.a 1 (by omega) (by omega)), e1, cI_s, if_pos (G.i 1 (by omega) (by omega)), if_pos (G.a 1 (by omega) (by omega)), e2, cI_s, if_pos rfl]
theorem w_336 (R : Rel h) (G : Lg xs x) : Wk xs d x h 336 := by
  obtain ⟨v, h1, h2, e1, e2, R2⟩ := q_told (xs := xs) (d := d + 4) R ((nth (CT xs 1) (x + 1).toNat).getD 0)
  refine ⟨h2, R2, ?_⟩
  rw [e_L_law_336, if_pos (G.i 1 (by omega) (by omega)), if_pos (G.a 1 (by omega) (by omega)), e1, cI_s, if_pos (G.i 1 (by omega) (by omega)), if_pos (G.a 1 (by omega) (by omega)), e2, cI_s, if_pos rfl]
theorem w_353 (R : Rel h) (G : Lg xs x) : Wk xs d x h 353 := by
  obtain ⟨v, h1, h2, e1, e2, R2⟩ := q_person (xs := xs) (d := d + 4) R ((nth (CT xs 1) (x + 1).toNat).getD 0) ((nth (CT xs 1) (x + 2).toNat).getD 0)
  refine ⟨h2, R2, ?_⟩
  rw [e_L_law_353, if_pos (G.i 1 (by omega) (by omega)), if_pos (G.a 1 (by omega) (by omega)), if_pos (G.i 2 (by omega) (by omega)), if_pos (G.a 2 (by omega) (by omega)), e1, cI_s, if_pos (G.i 1 (by omega) (by omega)), if_pos (G.a 1 (by omega) (by omega)), if_pos (G.i 2 (by omega) (by omega)), if_pos (G.a 2 (by omega) (by omega)), e2, cI_s, if_pos rfl]
theorem w_380 (R : Rel h) (G : Lg xs x) : Wk xs d x h 380 := by
  obtain ⟨v, h1, h2, e1, e2, R2⟩ := q_far (xs := xs) (d := d + 4) R ((nth (CT xs 1) (x + 1).toNat).getD 0) ((nth (CT xs 1) (x + 2).toNat).getD 0)
  refine ⟨h2, R2, ?_⟩
  rw [e_L_law_380, if_pos (G.i 1 (by omega) (by omega)), if_pos (G.a 1 (by omega) (by omega)), if_pos (G.i 2 (by omega) (by omega)), if_pos (G.a 2 (by omega) (by omega)), e1, cI_s, if_pos (G.i 1 (by omega) (by omega)), if_pos (G.a 1 (by omega) (by omega)), if_pos (G.i 2 (by omega) (by omega)), if_pos (G.a 2 (by omega) (by omega)), e2, cI_s, if_pos rfl]
theorem w_407 (R : Rel h) (G : Lg xs x) : Wk xs d x h 407 := by
  obtain ⟨v, h1, h2, e1, e2, R2⟩ := q_drink (xs := xs) (d := d + 4) R ((nth (CT xs 1) (x + 1).toNat).getD 0)
  refine ⟨h2, R2, ?_⟩
  rw [e_L_law_407, if_pos (G.i 1 (by omega) (by omega)), if_pos (G.a 1 (by omega) (by omega)), e1, cI_s, if_pos (G.i 1 (by omega) (by omega)), if_pos (G.a 1 (by omega) (by omega)), e2, cI_s, if_pos rfl]
theorem w_424 (R : Rel h) (G : Lg xs x) : Wk xs d x h 424 := by
  obtain ⟨v, h1, h2, e1, e2, R2⟩ := q_night (xs := xs) (d := d + 4) R ((nth (CT xs 1) (x + 1).toNat).getD 0)
  refine ⟨h2, R2, ?_⟩
  rw [e_L_law_424, if_pos (G.i 1 (by omega) (by omega)), if_pos (G.a 1 (by omega) (by omega)), e1, cI_s, if_pos (G.i 1 (by omega) (by omega)), if_pos (G.a 1 (by omega) (by omega)), e2, cI_s, if_pos rfl]
theorem w_441 (R : Rel h) (G : Lg xs x) : Wk xs d x h 441 := by
  obtain ⟨v, h1, h2, e1, e2, R2⟩ := q_evening (xs := xs) (d := d + 4) R 
  refine ⟨h2, R2, ?_⟩
  rw [e_L_law_441, e1, cI_s, e2, cI_s, if_pos rfl]
theorem w_448 (R : Rel h) (G : Lg xs x) : Wk xs d x h 448 := by
  obtain ⟨v, h1, h2, e1, e2, R2⟩ := q_fill (xs := xs) (d := d + 4) R ((nth (CT xs 1) (x + 1).toNat).getD 0) ((nth (CT xs 1) (x + 2).toNat).getD 0)
  refine ⟨h2, R2, ?_⟩
  rw [e_L_law_448, if_pos (G.i 1 (by omega) (by omega)), if_pos (G.a 1 (by omega) (by omega)), if_pos (G.i 2 (by omega) (by omega)), if_pos (G.a 2 (by omega) (by omega)), e1, cI_s, if_pos (G.i 1 (by omega) (by omega)), if_pos (G.a 1 (by omega) (by omega)), if_pos (G.i 2 (by omega) (by omega)), if_pos (G.a 2 (by omega) (by omega)), e2, cI_s, if_pos rfl]
theorem w_475 (R : Rel h) (G : Lg xs x) : Wk xs d x h 475 := by
  obtain ⟨v, h1, h2, e1, e2, R2⟩ := q_means (xs := xs) (d := d + 4) R ((nth (CT xs 1) (x + 1).toNat).getD 0) ((nth (CT xs 1) (x + 2).toNat).getD 0)
  refine ⟨h2, R2, ?_⟩
  rw [e_L_law_475, if_pos (G.i 1 (by omega) (by omega)), if_pos (G.a 1 (by omega) (by omega)), if_pos (G.i 2 (by omega) (by omega)), if_pos (G.a 2 (by omega) (by omega)), e1, cI_s, if_pos (G.i 1 (by omega) (by omega)), if_pos (G.a 1 (by omega) (by omega)), if_pos (G.i 2 (by omega) (by omega)), if_pos (G.a 2 (by omega) (by omega)), e2, cI_s, if_pos rfl]
theorem w_502 (R : Rel h) (G : Lg xs x) : Wk xs d x h 502 := by
  obtain ⟨v, h1, h2, e1, e2, R2⟩ := q_move (xs := xs) (d := d + 4) R ((nth (CT xs 1) (x + 1).toNat).getD 0) ((nth (CT xs 1) (x + 2).toNat).getD 0)
  refine ⟨h2, R2, ?_⟩
  rw [e_L_law_502, if_pos (G.i 1 (by omega) (by omega)), if_pos (G.a 1 (by omega) (by omega)), if_pos (G.i 2 (by omega) (by omega)), if_pos (G.a 2 (by omega) (by omega)), e1, cI_s, if_pos (G.i 1 (by omega) (by omega)), if_pos (G.a 1 (by omega) (by omega)), if_pos (G.i 2 (by omega) (by omega)), if_pos (G.a 2 (by omega) (by omega)), e2, cI_s, if_pos rfl]
theorem w_529 (R : Rel h) (G : Lg xs x) : Wk xs d x h 529 := by
  obtain ⟨v, h1, h2, e1, e2, R2⟩ := q_aim (xs := xs) (d := d + 4) R ((nth (CT xs 1) (x + 1).toNat).getD 0) ((nth (CT xs 1) (x + 2).toNat).getD 0)
  refine ⟨h2, R2, ?_⟩
  rw [e_L_law_529, if_pos (G.i 1 (by omega) (by omega)), if_pos (G.a 1 (by omega) (by omega)), if_pos (G.i 2 (by omega) (by omega)), if_pos (G.a 2 (by omega) (by omega)), e1, cI_s, if_pos (G.i 1 (by omega) (by omega)), if_pos (G.a 1 (by omega) (by omega)), if_pos (G.i 2 (by omega) (by omega)), if_pos (G.a 2 (by omega) (by omega)), e2, cI_s, if_pos rfl]
theorem w_556 (R : Rel h) (G : Lg xs x) : Wk xs d x h 556 := by
  obtain ⟨v, h1, h2, e1, e2, R2⟩ := q_come (xs := xs) (d := d + 4) R ((nth (CT xs 1) (x + 1).toNat).getD 0)
  refine ⟨h2, R2, ?_⟩
  rw [e_L_law_556, if_pos (G.i 1 (by omega) (by omega)), if_pos (G.a 1 (by omega) (by omega)), e1, cI_s, if_pos (G.i 1 (by omega) (by omega)), if_pos (G.a 1 (by omega) (by omega)), e2, cI_s, if_pos rfl]
theorem w_573 (R : Rel h) (G : Lg xs x) : Wk xs d x h 573 := by
  obtain ⟨v, h1, h2, e1, e2, R2⟩ := q_rule (xs := xs) (d := d + 4) R ((nth (CT xs 1) (x + 1).toNat).getD 0) ((nth (CT xs 1) (x + 2).toNat).getD 0)
  refine ⟨h2, R2, ?_⟩
  rw [e_L_law_573, if_pos (G.i 1 (by omega) (by omega)), if_pos (G.a 1 (by omega) (by omega)), if_pos (G.i 2 (by omega) (by omega)), if_pos (G.a 2 (by omega) (by omega)), e1, cI_s, if_pos (G.i 1 (by omega) (by omega)), if_pos (G.a 1 (by omega) (by omega)), if_pos (G.i 2 (by omega) (by omega)), if_pos (G.a 2 (by omega) (by omega)), e2, cI_s, if_pos rfl]
theorem w_600 (R : Rel h) (G : Lg xs x) : Wk xs d x h 600 := by
  obtain ⟨v, h1, h2, e1, e2, R2⟩ := q_warmIn (xs := xs) (d := d + 4) R ((nth (CT xs 1) (x + 1).toNat).getD 0) ((nth (CT xs 1) (x + 2).toNat).getD 0)
  refine ⟨h2, R2, ?_⟩
  rw [e_L_law_600, if_pos (G.i 1 (by omega) (by omega)), if_pos (G.a 1 (by omega) (by omega)), if_pos (G.i 2 (by omega) (by omega)), if_pos (G.a 2 (by omega) (by omega)), e1, cI_s, if_pos (G.i 1 (by omega) (by omega)), if_pos (G.a 1 (by omega) (by omega)), if_pos (G.i 2 (by omega) (by omega)), if_pos (G.a 2 (by omega) (by omega)), e2, cI_s, if_pos rfl]
theorem w_627 (R : Rel h) (G : Lg xs x) : Wk xs d x h 627 := by
  obtain ⟨v, h1, h2, e1, e2, R2⟩ := q_darkIn (xs := xs) (d := d + 4) R ((nth (CT xs 1) (x + 1).toNat).getD 0)
  refine ⟨h2, R2, ?_⟩
  rw [e_L_law_627, if_pos (G.i 1 (by omega) (by omega)), if_pos (G.a 1 (by omega) (by omega)), e1, cI_s, if_pos (G.i 1 (by omega) (by omega)), if_pos (G.a 1 (by omega) (by omega)), e2, cI_s, if_pos rfl]
theorem w_644 (R : Rel h) (G : Lg xs x) : Wk xs d x h 644 := by
  obtain ⟨v, h1, h2, e1, e2, R2⟩ := q_eveningIn (xs := xs) (d := d + 4) R ((nth (CT xs 1) (x + 1).toNat).getD 0) ((nth (CT xs 1) (x + 2).toNat).getD 0)
  refine ⟨h2, R2, ?_⟩
  rw [e_L_law_644, if_pos (G.i 1 (by omega) (by omega)), if_pos (G.a 1 (by omega) (by omega)), if_pos (G.i 2 (by omega) (by omega)), if_pos (G.a 2 (by omega) (by omega)), e1, cI_s, if_pos (G.i 1 (by omega) (by omega)), if_pos (G.a 1 (by omega) (by omega)), if_pos (G.i 2 (by omega) (by omega)), if_pos (G.a 2 (by omega) (by omega)), e2, cI_s, if_pos rfl]
theorem w_671 (R : Rel h) (G : Lg xs x) : Wk xs d x h 671 := by
  obtain ⟨v, h1, h2, e1, e2, R2⟩ := q_litIn (xs := xs) (d := d + 4) R ((nth (CT xs 1) (x + 1).toNat).getD 0)
  refine ⟨h2, R2, ?_⟩
  rw [e_L_law_671, if_pos (G.i 1 (by omega) (by omega)), if_pos (G.a 1 (by omega) (by omega)), e1, cI_s, if_pos (G.i 1 (by omega) (by omega)), if_pos (G.a 1 (by omega) (by omega)), e2, cI_s, if_pos rfl]
theorem w_688 (R : Rel h) (G : Lg xs x) : Wk xs d x h 688 := by
  obtain ⟨v, h1, h2, e1, e2, R2⟩ := q_settles (xs := xs) (d := d + 4) R 
  refine ⟨h2, R2, ?_⟩
  rw [e_L_law_688, e1, cI_s, e2, cI_s, if_pos rfl]
theorem w_695 (R : Rel h) (G : Lg xs x) : Wk xs d x h 695 := by
  obtain ⟨v, h1, h2, e1, e2, R2⟩ := q_period (xs := xs) (d := d + 4) R 
  refine ⟨h2, R2, ?_⟩
  rw [e_L_law_695, e1, cI_s, e2, cI_s, if_pos rfl]
theorem w_702 (R : Rel h) (G : Lg xs x) : Wk xs d x h 702 := by
  obtain ⟨v, h1, h2, e1, e2, R2⟩ := q_chain (xs := xs) (d := d + 4) R ((nth (CT xs 1) (x + 1).toNat).getD 0)
  refine ⟨h2, R2, ?_⟩
  rw [e_L_law_702, if_pos (G.i 1 (by omega) (by omega)), if_pos (G.a 1 (by omega) (by omega)), e1, cI_s, if_pos (G.i 1 (by omega) (by omega)), if_pos (G.a 1 (by omega) (by omega)), e2, cI_s, if_pos rfl]
theorem w_719 (R : Rel h) (G : Lg xs x) : Wk xs d x h 719 := by
  obtain ⟨v, h1, h2, e1, e2, R2⟩ := q_chainAt (xs := xs) (d := d + 4) R ((nth (CT xs 1) (x + 1).toNat).getD 0) ((nth (CT xs 1) (x + 2).toNat).getD 0)
  refine ⟨h2, R2, ?_⟩
  rw [e_L_law_719, if_pos (G.i 1 (by omega) (by omega)), if_pos (G.a 1 (by omega) (by omega)), if_pos (G.i 2 (by omega) (by omega)), if_pos (G.a 2 (by omega) (by omega)), e1, cI_s, if_pos (G.i 1 (by omega) (by omega)), if_pos (G.a 1 (by omega) (by omega)), if_pos (G.i 2 (by omega) (by omega)), if_pos (G.a 2 (by omega) (by omega)), e2, cI_s, if_pos rfl]
theorem w_746 (R : Rel h) (G : Lg xs x) : Wk xs d x h 746 := by
  obtain ⟨v, h1, h2, e1, e2, R2⟩ := q_rings (xs := xs) (d := d + 4) R 
  refine ⟨h2, R2, ?_⟩
  rw [e_L_law_746, e1, cI_s, e2, cI_s, if_pos rfl]
theorem w_753 (R : Rel h) (G : Lg xs x) : Wk xs d x h 753 := by
  obtain ⟨v, h1, h2, e1, e2, R2⟩ := q_inRings (xs := xs) (d := d + 4) R 
  refine ⟨h2, R2, ?_⟩
  rw [e_L_law_753, e1, cI_s, e2, cI_s, if_pos rfl]
theorem w_760 (R : Rel h) (G : Lg xs x) : Wk xs d x h 760 := by
  obtain ⟨v, h1, h2, e1, e2, R2⟩ := q_needs (xs := xs) (d := d + 4) R ((nth (CT xs 1) (x + 1).toNat).getD 0)
  refine ⟨h2, R2, ?_⟩
  rw [e_L_law_760, if_pos (G.i 1 (by omega) (by omega)), if_pos (G.a 1 (by omega) (by omega)), e1, cI_s, if_pos (G.i 1 (by omega) (by omega)), if_pos (G.a 1 (by omega) (by omega)), e2, cI_s, if_pos rfl]
theorem w_777 (R : Rel h) (G : Lg xs x) : Wk xs d x h 777 := by
  obtain ⟨v, h1, h2, e1, e2, R2⟩ := q_most (xs := xs) (d := d + 4) R ((nth (CT xs 1) (x + 1).toNat).getD 0)
  refine ⟨h2, R2, ?_⟩
  rw [e_L_law_777, if_pos (G.i 1 (by omega) (by omega)), if_pos (G.a 1 (by omega) (by omega)), e1, cI_s, if_pos (G.i 1 (by omega) (by omega)), if_pos (G.a 1 (by omega) (by omega)), e2, cI_s, if_pos rfl]
theorem w_794 (R : Rel h) (G : Lg xs x) : Wk xs d x h 794 := by
  obtain ⟨v, h1, h2, e1, e2, R2⟩ := q_mostSet (xs := xs) (d := d + 4) R ((nth (CT xs 1) (x + 1).toNat).getD 0)
  refine ⟨h2, R2, ?_⟩
  rw [e_L_law_794, if_pos (G.i 1 (by omega) (by omega)), if_pos (G.a 1 (by omega) (by omega)), e1, cI_s, if_pos (G.i 1 (by omega) (by omega)), if_pos (G.a 1 (by omega) (by omega)), e2, cI_s, if_pos rfl]
theorem w_811 (R : Rel h) (G : Lg xs x) : Wk xs d x h 811 := by
  obtain ⟨v, h1, h2, e1, e2, R2⟩ := q_misses (xs := xs) (d := d + 4) R ((nth (CT xs 1) (x + 1).toNat).getD 0)
  refine ⟨h2, R2, ?_⟩
  rw [e_L_law_811, if_pos (G.i 1 (by omega) (by omega)), if_pos (G.a 1 (by omega) (by omega)), e1, cI_s, if_pos (G.i 1 (by omega) (by omega)), if_pos (G.a 1 (by omega) (by omega)), e2, cI_s, if_pos rfl]
theorem w_828 (R : Rel h) (G : Lg xs x) : Wk xs d x h 828 := by
  obtain ⟨v, h1, h2, e1, e2, R2⟩ := q_fits (xs := xs) (d := d + 4) R ((nth (CT xs 1) (x + 1).toNat).getD 0) ((nth (CT xs 1) (x + 2).toNat).getD 0)
  refine ⟨h2, R2, ?_⟩
  rw [e_L_law_828, if_pos (G.i 1 (by omega) (by omega)), if_pos (G.a 1 (by omega) (by omega)), if_pos (G.i 2 (by omega) (by omega)), if_pos (G.a 2 (by omega) (by omega)), e1, cI_s, if_pos (G.i 1 (by omega) (by omega)), if_pos (G.a 1 (by omega) (by omega)), if_pos (G.i 2 (by omega) (by omega)), if_pos (G.a 2 (by omega) (by omega)), e2, cI_s, if_pos rfl]
theorem w_855 (R : Rel h) (G : Lg xs x) : Wk xs d x h 855 := by
  obtain ⟨v, h1, h2, e1, e2, R2⟩ := q_firstOf (xs := xs) (d := d + 4) R ((nth (CT xs 1) (x + 1).toNat).getD 0) ((nth (CT xs 1) (x + 2).toNat).getD 0) ((nth (CT xs 1) (x + 3).toNat).getD 0)
  refine ⟨h2, R2, ?_⟩
  rw [e_L_law_855, if_pos (G.i 1 (by omega) (by omega)), if_pos (G.a 1 (by omega) (by omega)), if_pos (G.i 2 (by omega) (by omega)), if_pos (G.a 2 (by omega) (by omega)), if_pos (G.i 3 (by omega) (by omega)), if_pos (G.a 3 (by omega) (by omega)), e1, cI_s, if_pos (G.i 1 (by omega) (by omega)), if_pos (G.a 1 (by omega) (by omega)), if_pos (G.i 2 (by omega) (by omega)), if_pos (G.a 2 (by omega) (by omega)), if_pos (G.i 3 (by omega) (by omega)), if_pos (G.a 3 (by omega) (by omega)), e2, cI_s, if_pos rfl]
theorem w_892 (R : Rel h) (G : Lg xs x) : Wk xs d x h 892 := by
  obtain ⟨v, h1, h2, e1, e2, R2⟩ := q_oddsThat (xs := xs) (d := d + 4) R ((nth (CT xs 1) (x + 1).toNat).getD 0) ((nth (CT xs 1) (x + 2).toNat).getD 0) ((nth (CT xs 1) (x + 3).toNat).getD 0) ((nth (CT xs 1) (x + 4).toNat).getD 0)
  refine ⟨h2, R2, ?_⟩
  rw [e_L_law_892, if_pos (G.i 1 (by omega) (by omega)), if_pos (G.a 1 (by omega) (by omega)), if_pos (G.i 2 (by omega) (by omega)), if_pos (G.a 2 (by omega) (by omega)), if_pos (G.i 3 (by omega) (by omega)), if_pos (G.a 3 (by omega) (by omega)), if_pos (G.i 4 (by omega) (by omega)), if_pos (G.a 4 (by omega) (by omega)), e1, cI_s, if_pos (G.i 1 (by omega) (by omega)), if_pos (G.a 1 (by omega) (by omega)), if_pos (G.i 2 (by omega) (by omega)), if_pos (G.a 2 (by omega) (by omega)), if_pos (G.i 3 (by omega) (by omega)), if_pos (G.a 3 (by omega) (by omega)), if_pos (G.i 4 (by omega) (by omega)), if_pos (G.a 4 (by omega) (by omega)), e2, cI_s, if_pos rfl]
theorem w_939 (R : Rel h) (G : Lg xs x) : Wk xs d x h 939 := by
  obtain ⟨v, h1, h2, e1, e2, R2⟩ := q_ask (xs := xs) (d := d + 4) R ((nth (CT xs 1) (x + 1).toNat).getD 0) ((nth (CT xs 1) (x + 2).toNat).getD 0)
  refine ⟨h2, R2, ?_⟩
  rw [e_L_law_939, if_pos (G.i 1 (by omega) (by omega)), if_pos (G.a 1 (by omega) (by omega)), if_pos (G.i 2 (by omega) (by omega)), if_pos (G.a 2 (by omega) (by omega)), e1, cI_s, if_pos (G.i 1 (by omega) (by omega)), if_pos (G.a 1 (by omega) (by omega)), if_pos (G.i 2 (by omega) (by omega)), if_pos (G.a 2 (by omega) (by omega)), e2, cI_s, if_pos rfl]
theorem w_966 (R : Rel h) (G : Lg xs x) : Wk xs d x h 966 := by
  obtain ⟨v, h1, h2, e1, e2, R2⟩ := q_laws (xs := xs) (d := d + 4) R ((nth (CT xs 1) (x + 1).toNat).getD 0) ((nth (CT xs 1) (x + 2).toNat).getD 0)
  refine ⟨h2, R2, ?_⟩
  rw [e_L_law_966, if_pos (G.i 1 (by omega) (by omega)), if_pos (G.a 1 (by omega) (by omega)), if_pos (G.i 2 (by omega) (by omega)), if_pos (G.a 2 (by omega) (by omega)), e1, cI_s, if_pos (G.i 1 (by omega) (by omega)), if_pos (G.a 1 (by omega) (by omega)), if_pos (G.i 2 (by omega) (by omega)), if_pos (G.a 2 (by omega) (by omega)), e2, cI_s, if_pos rfl]
theorem w_993 (R : Rel h) (G : Lg xs x) : Wk xs d x h 993 := by
  obtain ⟨v, h1, h2, e1, e2, R2⟩ := q_lawOf (xs := xs) (d := d + 4) R ((nth (CT xs 1) (x + 1).toNat).getD 0) ((nth (CT xs 1) (x + 2).toNat).getD 0) ((nth (CT xs 1) (x + 3).toNat).getD 0)
  refine ⟨h2, R2, ?_⟩
  rw [e_L_law_993, if_pos (G.i 1 (by omega) (by omega)), if_pos (G.a 1 (by omega) (by omega)), if_pos (G.i 2 (by omega) (by omega)), if_pos (G.a 2 (by omega) (by omega)), if_pos (G.i 3 (by omega) (by omega)), if_pos (G.a 3 (by omega) (by omega)), e1, cI_s, if_pos (G.i 1 (by omega) (by omega)), if_pos (G.a 1 (by omega) (by omega)), if_pos (G.i 2 (by omega) (by omega)), if_pos (G.a 2 (by omega) (by omega)), if_pos (G.i 3 (by omega) (by omega)), if_pos (G.a 3 (by omega) (by omega)), e2, cI_s, if_pos rfl]
theorem w_1030 (R : Rel h) (G : Lg xs x) : Wk xs d x h 1030 := by
  obtain ⟨v, h1, h2, e1, e2, R2⟩ := q_error (xs := xs) (d := d + 4) R ((nth (CT xs 1) (x + 1).toNat).getD 0) ((nth (CT xs 1) (x + 2).toNat).getD 0) ((nth (CT xs 1) (x + 3).toNat).getD 0)
  refine ⟨h2, R2, ?_⟩
  rw [e_L_law_1030, if_pos (G.i 1 (by omega) (by omega)), if_pos (G.a 1 (by omega) (by omega)), if_pos (G.i 2 (by omega) (by omega)), if_pos (G.a 2 (by omega) (by omega)), if_pos (G.i 3 (by omega) (by omega)), if_pos (G.a 3 (by omega) (by omega)), e1, cI_s, if_pos (G.i 1 (by omega) (by omega)), if_pos (G.a 1 (by omega) (by omega)), if_pos (G.i 2 (by omega) (by omega)), if_pos (G.a 2 (by omega) (by omega)), if_pos (G.i 3 (by omega) (by omega)), if_pos (G.a 3 (by omega) (by omega)), e2, cI_s, if_pos rfl]
theorem w_1067 (R : Rel h) (G : Lg xs x) : Wk xs d x h 1067 := by
  obtain ⟨v, h1, h2, e1, e2, R2⟩ := q_cut (xs := xs) (d := d + 4) R ((nth (CT xs 1) (x + 1).toNat).getD 0)
  refine ⟨h2, R2, ?_⟩
  rw [e_L_law_1067, if_pos (G.i 1 (by omega) (by omega)), if_pos (G.a 1 (by omega) (by omega)), e1, cI_s, if_pos (G.i 1 (by omega) (by omega)), if_pos (G.a 1 (by omega) (by omega)), e2, cI_s, if_pos rfl]
theorem w_1084 (R : Rel h) (G : Lg xs x) : Wk xs d x h 1084 := by
  obtain ⟨v, h1, h2, e1, e2, R2⟩ := q_game (xs := xs) (d := d) R ((nth (CT xs 1) (x + 1).toNat).getD 0)
  refine ⟨h2, R2, ?_⟩
  rw [e_L_law_1084, if_pos (G.i 1 (by omega) (by omega)), if_pos (G.a 1 (by omega) (by omega)), e1, cI_s, if_pos (G.i 1 (by omega) (by omega)), if_pos (G.a 1 (by omega) (by omega)), e2, cI_s, if_pos rfl]
theorem w_1101 (R : Rel h) (G : Lg xs x) : Wk xs d x h 1101 := by
  obtain ⟨v, h1, h2, e1, e2, R2⟩ := q_moveOf (xs := xs) (d := d) R ((nth (CT xs 1) (x + 1).toNat).getD 0)
  refine ⟨h2, R2, ?_⟩
  rw [e_L_law_1101, if_pos (G.i 1 (by omega) (by omega)), if_pos (G.a 1 (by omega) (by omega)), e1, cI_s, if_pos (G.i 1 (by omega) (by omega)), if_pos (G.a 1 (by omega) (by omega)), e2, cI_s, if_pos rfl]
theorem w_1118 (R : Rel h) (G : Lg xs x) : Wk xs d x h 1118 := by
  obtain ⟨v, h1, h2, e1, e2, R2⟩ := q_share (xs := xs) (d := d + 4) R ((nth (CT xs 1) (x + 1).toNat).getD 0)
  refine ⟨h2, R2, ?_⟩
  rw [e_L_law_1118, if_pos (G.i 1 (by omega) (by omega)), if_pos (G.a 1 (by omega) (by omega)), e1, cI_s, if_pos (G.i 1 (by omega) (by omega)), if_pos (G.a 1 (by omega) (by omega)), e2, cI_s, if_pos rfl]
theorem w_1135 (R : Rel h) (G : Lg xs x) : Wk xs d x h 1135 := by
  obtain ⟨v, h1, h2, e1, e2, R2⟩ := q_copyWarmth (xs := xs) (d := d + 4) R ((nth (CT xs 1) (x + 1).toNat).getD 0)
  refine ⟨h2, R2, ?_⟩
  rw [e_L_law_1135, if_pos (G.i 1 (by omega) (by omega)), if_pos (G.a 1 (by omega) (by omega)), e1, cI_s, if_pos (G.i 1 (by omega) (by omega)), if_pos (G.a 1 (by omega) (by omega)), e2, cI_s, if_pos rfl]
theorem w_1152 (R : Rel h) (G : Lg xs x) : Wk xs d x h 1152 := by
  obtain ⟨v, h1, h2, e1, e2, R2⟩ := q_live (xs := xs) (d := d + 4) R ((nth (CT xs 1) (x + 1).toNat).getD 0)
  refine ⟨h2, R2, ?_⟩
  rw [e_L_law_1152, if_pos (G.i 1 (by omega) (by omega)), if_pos (G.a 1 (by omega) (by omega)), e1, cI_s, if_pos (G.i 1 (by omega) (by omega)), if_pos (G.a 1 (by omega) (by omega)), e2, cI_s, if_pos rfl]
theorem w_1169 (R : Rel h) (G : Lg xs x) : Wk xs d x h 1169 := by
  obtain ⟨v, h1, h2, e1, e2, R2⟩ := q_lived (xs := xs) (d := d + 4) R ((nth (CT xs 1) (x + 1).toNat).getD 0)
  refine ⟨h2, R2, ?_⟩
  rw [e_L_law_1169, if_pos (G.i 1 (by omega) (by omega)), if_pos (G.a 1 (by omega) (by omega)), e1, cI_s, if_pos (G.i 1 (by omega) (by omega)), if_pos (G.a 1 (by omega) (by omega)), e2, cI_s, if_pos rfl]
theorem w_1186 (R : Rel h) (G : Lg xs x) : Wk xs d x h 1186 := by
  obtain ⟨v, h1, h2, e1, e2, R2⟩ := q_mean (xs := xs) (d := d + 4) R ((nth (CT xs 1) (x + 1).toNat).getD 0) ((nth (CT xs 1) (x + 2).toNat).getD 0)
  refine ⟨h2, R2, ?_⟩
  rw [e_L_law_1186, if_pos (G.i 1 (by omega) (by omega)), if_pos (G.a 1 (by omega) (by omega)), if_pos (G.i 2 (by omega) (by omega)), if_pos (G.a 2 (by omega) (by omega)), e1, cI_s, if_pos (G.i 1 (by omega) (by omega)), if_pos (G.a 1 (by omega) (by omega)), if_pos (G.i 2 (by omega) (by omega)), if_pos (G.a 2 (by omega) (by omega)), e2, cI_s, if_pos rfl]
theorem w_1213 (R : Rel h) (G : Lg xs x) : Wk xs d x h 1213 := by
  obtain ⟨v, h1, h2, e1, e2, R2⟩ := q_mark (xs := xs) (d := d + 4) R 
  refine ⟨h2, R2, ?_⟩
  rw [e_L_law_1213, e1, cI_s, e2, cI_s, if_pos rfl]
theorem w_1220 (R : Rel h) (G : Lg xs x) : Wk xs d x h 1220 := by
  obtain ⟨v, h1, h2, e1, e2, R2⟩ := q_undo (xs := xs) (d := d + 4) R 
  refine ⟨h2, R2, ?_⟩
  rw [e_L_law_1220, e1, cI_s, e2, cI_s, if_pos rfl]
end
