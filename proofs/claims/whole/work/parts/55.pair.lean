/-! EQUIV 25: both readers side by side -/
theorem lshl8 : ((Int32.ofInt 8).toInt64 &&& 63) = 8 := by decide
theorem lor8 {x w : Nat} (hx : x < 2 ^ 55) (hw : w < 256) : fLor (fLshl (x : Int) 8) (w : Int) = ((x * 256 + w : Nat) : Int) := by
  have e : (Int64.ofInt (x : Int) <<< 8 ||| Int64.ofInt (w : Int)).toBitVec.toNat = x * 256 + w := by
    rw [Int64.toBitVec_or, Int64.toBitVec_shiftLeft, Int64.toBitVec_ofInt, Int64.toBitVec_ofInt, BitVec.ofInt_natCast, BitVec.ofInt_natCast, BitVec.toNat_or]
    have h7 : ((Int64.toBitVec 8).smod 64) = 8#64 := by decide
    rw [h7]
    show ((BitVec.ofNat 64 x <<< (8#64).toNat).toNat ||| (BitVec.ofNat 64 w).toNat) = _
    rw [BitVec.toNat_shiftLeft, BitVec.toNat_ofNat, BitVec.toNat_ofNat, BitVec.toNat_ofNat]
    rw [Nat.mod_eq_of_lt (show w < 2 ^ 64 by omega), Nat.mod_eq_of_lt (show x < 2 ^ 64 by omega)]
    show (x <<< 8 % 2 ^ 64 ||| w) = _
    have e2 : x <<< 8 = x * 256 := by rw [Nat.shiftLeft_eq]
    rw [e2, Nat.mod_eq_of_lt (show x * 256 < 2 ^ 64 by omega), ← e2, ← Nat.shiftLeft_add_eq_or_of_lt (i := 8) (by omega), e2]
  have s : fLshl (x : Int) 8 = (Int64.ofInt (x : Int) <<< 8).toInt := by unfold fLshl; rw [lshl8]
  rw [s]
  unfold fLor
  rw [Int64.ofInt_toInt]
  show (Int64.ofInt (x : Int) <<< 8 ||| Int64.ofInt (w : Int)).toBitVec.toInt = _
  rw [BitVec.toInt_eq_toNat_of_lt (by rw [e]; omega), e]
theorem nil_or (w : List Nat) : w = [] ∨ ∃ u b, w = u ++ [b] := by
  rcases List.eq_nil_or_concat w with e | ⟨u, b, e⟩
  · exact Or.inl e
  · exact Or.inr ⟨u, b, by rw [e, List.concat_eq_append]⟩
/-- a name has one number alone -/
theorem pk_inj {B o : Int} (h1 : 0 ≤ o) (h2 : 26 + o < B) : ∀ (n : Nat) (v w : List Nat), v.length ≤ n → (∀ l ∈ v, 1 ≤ l ∧ l ≤ 26) → (∀ l ∈ w, 1 ≤ l ∧ l ≤ 26) → pk B o v 0 = pk B o w 0 → v = w := by
  have nn : ∀ w : List Nat, (∀ l ∈ w, 1 ≤ l ∧ l ≤ 26) → ∀ a : Int, 0 ≤ a → 0 ≤ pk B o w a := fun w => by
    induction w with
    | nil => intro _ a ha; exact ha
    | cons l w ih =>
      intro h a ha
      have := Int.mul_nonneg ha (show 0 ≤ B by omega)
      exact ih (fun x hx => h x (by simp [hx])) _ (by omega)
  intro n
  induction n with
  | zero =>
    intro v w hl hv hw e
    obtain rfl : v = [] := List.length_eq_zero_iff.mp (by omega)
    rcases nil_or w with rfl | ⟨u, b, rfl⟩
    · rfl
    · rw [pk_snoc] at e
      have nu := nn u (fun l hl => hw l (by simp [hl])) 0 (Int.le_refl _)
      have := Int.mul_nonneg nu (show 0 ≤ B by omega)
      have hb := hw b (by simp)
      rw [pk] at e
      omega
  | succ n ih =>
    intro v w hl hv hw e
    rcases nil_or v with rfl | ⟨u, b, rfl⟩
    · rcases nil_or w with rfl | ⟨u, b, rfl⟩
      · rfl
      · rw [pk_snoc] at e
        have nu := nn u (fun l hl => hw l (by simp [hl])) 0 (Int.le_refl _)
        have := Int.mul_nonneg nu (show 0 ≤ B by omega)
        have hb := hw b (by simp)
        rw [pk] at e
        omega
    · rcases nil_or w with rfl | ⟨u', b', rfl⟩
      · rw [pk_snoc] at e
        have nu := nn u (fun l hl => hv l (by simp [hl])) 0 (Int.le_refl _)
        have := Int.mul_nonneg nu (show 0 ≤ B by omega)
        have hb := hv b (by simp)
        rw [pk] at e
        omega
      · rw [pk_snoc, pk_snoc] at e
        have hb := hv b (by simp)
        have hb' := hw b' (by simp)
        have m1 : (pk B o u 0 * B + ((b : Int) + o)) % B = (b : Int) + o := by
          rw [Int.add_comm, Int.add_mul_emod_self_right]
          exact Int.emod_eq_of_lt (by omega) (by omega)
        have m2 : (pk B o u' 0 * B + ((b' : Int) + o)) % B = (b' : Int) + o := by
          rw [Int.add_comm, Int.add_mul_emod_self_right]
          exact Int.emod_eq_of_lt (by omega) (by omega)
        have be : b = b' := by rw [e, m2] at m1; omega
        subst be
        have e2 : pk B o u 0 * B = pk B o u' 0 * B := by omega
        have e3 := Int.eq_of_mul_eq_mul_right (show B ≠ 0 by omega) e2
        rw [List.length_append, List.length_singleton] at hl
        rw [ih u u' (by omega) (fun l hl => hv l (by simp [hl])) (fun l hl => hw l (by simp [hl])) e3]
theorem pk_iff {v w : List Nat} (hv : ∀ l ∈ v, 1 ≤ l ∧ l ≤ 26) (hw : ∀ l ∈ w, 1 ≤ l ∧ l ≤ 26) : (pk 32 0 v 0 = pk 32 0 w 0 ↔ v = w) ∧ (pk 256 96 v 0 = pk 256 96 w 0 ↔ v = w) := ⟨⟨pk_inj (by omega) (by omega) _ v w (Nat.le_refl _) hv hw, fun e => by rw [e]⟩, ⟨pk_inj (by omega) (by omega) _ v w (Nat.le_refl _) hv hw, fun e => by rw [e]⟩⟩
/-- the numbers of words of the class and of the reference -/
def WdR (t m : Int) : Prop := (1 ≤ t ∧ t ≤ 7 ∧ m = t - 1) ∨ (8 ≤ t ∧ t ≤ 11 ∧ m = t) ∨ (t = 12 ∧ m = 7) ∨ (13 ≤ t ∧ t ≤ 19 ∧ m = t - 1) ∨ (t = 20 ∧ m = 22) ∨ (21 ≤ t ∧ t ≤ 23 ∧ m = t - 2) ∨ (-1 ≤ t ∧ t ≤ 0 ∧ m = -1)
theorem wof_no {x : Int} : ∀ (m i : Nat), (∀ j, i ≤ j → j < i + m → (nth WL j).getD 0 ≠ x) → wof x m i = 0
  | 0, _, _ => rfl
  | m + 1, i, h => by rw [wof, if_neg (h i (Nat.le_refl _) (by omega))]; exact wof_no m (i + 1) (fun j a b => h j (by omega) (by omega))
theorem wof_nn {x : Int} : ∀ (m i : Nat), 0 ≤ wof x m i
  | 0, _ => Int.le_refl _
  | m + 1, i => by
    have := wof_nn (x := x) m (i + 1)
    rw [wof]
    split <;> omega
theorem kof_no {w : List Nat} : ∀ (vs : List (List Nat)) (n : Nat), w ∉ vs → kof w vs n = -1
  | [], _, _ => rfl
  | v :: r, n, h => by
    rw [kof, if_neg (fun e => h (by rw [e]; simp))]
    exact kof_no r (n + 1) (fun z => h (by simp [z]))
theorem WL_key : ∀ j, j < 24 → 1 ≤ j → ∃ v ∈ keyL, (nth WL j).getD 0 = pk 32 0 v 0 := by decide +kernel
theorem key_ok : ∀ v ∈ keyL, v.length ≤ 8 ∧ ∀ l ∈ v, 1 ≤ l ∧ l ≤ 26 := by decide
theorem WdR_key : ∀ v ∈ keyL, WdR (tIx v) (kof v keyL 0) := by
  unfold WdR
  decide +kernel
theorem WdR_w {w : List Nat} (h : ∀ l ∈ w, 1 ≤ l ∧ l ≤ 26) : WdR (tIx w) (kof w keyL 0) := by
  by_cases z : w ∈ keyL
  · exact WdR_key w z
  · rw [kof_no _ _ z]
    refine Or.inr (Or.inr (Or.inr (Or.inr (Or.inr (Or.inr ?_)))))
    unfold tIx
    split
    · omega
    · rw [wof_no 23 1 (fun j a b e => ?_)]
      · omega
      · obtain ⟨v, h1, h2⟩ := WL_key j (by omega) a
        rw [h2] at e
        have := (pk_iff (key_ok v h1).2 h).1.mp e
        rw [this] at h1
        exact z h1
theorem tkW_ok {tx : Nat → Int} {N : Nat} {k : Tk} {f e : Nat} (w : TkW tx N k f e) (h : k.1 = 1) : (∀ l ∈ k.2.2, 1 ≤ l ∧ l ≤ 26) ∧ k.2.2.length = e - f ∧ f < e ∧ e ≤ N ∧ ∀ i, i < e - f → ((k.2.2.getD i 0 : Nat) : Int) + 96 = tx (f + i) := by
  obtain ⟨w1, w2, w3, w4, w5, w6, w7⟩ := w
  obtain ⟨v1, v2, v3⟩ := w4 h
  refine ⟨by rw [v1]; exact lt_ok v3, by rw [v1, ltN_len], v2, w3 (by omega), fun i hi => ?_⟩
  have := v3 i hi
  unfold isLt at this
  rw [decide_eq_true_iff] at this
  rw [v1, ltN_get _ _ hi]
  omega
theorem WdR_k {tx : Nat → Int} {N : Nat} {k : Tk} {f e : Nat} (w : TkW tx N k f e) : WdR (tWd k) (mWd k) := by
  unfold tWd mWd
  by_cases z : k.1 = 1
  · rw [if_pos z, if_pos z]
    exact WdR_w (tkW_ok w z).1
  · rw [if_neg z, if_neg z]
    exact Or.inr (Or.inr (Or.inr (Or.inr (Or.inr (Or.inr (by omega))))))
/-- the first place at which a row holds this -/
def fdI (f : Int → Int) (x : Int) : Nat → Nat → Int
  | 0, _ => -1
  | m + 1, i => if f i = x then (i : Int) else fdI f x m (i + 1)
theorem fdI_eq {f g : Int → Int} {x y : Int} : ∀ (m i : Nat), (∀ j : Nat, i ≤ j → j < i + m → (f j = x ↔ g j = y)) → fdI f x m i = fdI g y m i
  | 0, _, _ => rfl
  | m + 1, i, h => by
    have ih := fdI_eq (f := f) (g := g) (x := x) (y := y) m (i + 1) (fun j a b => h j (by omega) (by omega))
    have h0 := h i (Nat.le_refl _) (by omega)
    rw [fdI, fdI, ih]
    by_cases z : f i = x
    · rw [if_pos z, if_pos (h0.mp z)]
    · rw [if_neg z, if_neg (fun u => z (h0.mpr u))]
theorem fdI_bd {f : Int → Int} {x : Int} : ∀ (m i : Nat), fdI f x m i = -1 ∨ (i : Int) ≤ fdI f x m i ∧ fdI f x m i < (i : Int) + m
  | 0, _ => Or.inl rfl
  | m + 1, i => by
    have := fdI_bd (f := f) (x := x) m (i + 1)
    rw [fdI]
    split <;> omega
section
variable {xs : List Int} {d : Nat} {tx : Nat → Int} {N : Nat} {g : mM} {k : Tk} {f e : Nat}
theorem t_named {b : Nat} (hb : b = 12 ∨ b = 38) {n : Nat} (hn : g b 0 = (n : Int)) (h7 : n ≤ 7) (x : Int) : C xs d 231 0 [mR b, mL x] g = some ([mI (fdI (g (b + 7)) x n 0)], g) := by
  rw [c_Co_named xs d hb]
  have key : ∀ (m i : Nat), i + m = n → X xs d k_Co_named 2 [mR b, mL x, mC 0, mI (i : Int)] [] g = some ([mI (fdI (g (b + 7)) x m i)], g) := by
    intro m
    induction m with
    | zero =>
      intro i hi
      rw [e_Co_named_2 xs d _ _ hb, hn, fdI]
      refine if_n (by omega) ?_
      rfl
    | succ m ih =>
      intro i hi
      rw [e_Co_named_2 xs d _ _ hb, hn, fdI]
      refine if_y (by omega) ?_
      refine if_y (by omega) ?_
      by_cases z : g (b + 7) (i : Int) = x
      · rw [if_pos z, if_pos z]
      · rw [if_neg z, if_neg z]
        refine if_y (by omega) ?_
        exact ih (i + 1) (by omega)
  exact key n 0 (by omega)
theorem pk_256 : ∀ (w : List Nat), (∀ l ∈ w, 1 ≤ l ∧ l ≤ 26) → ∀ a : Nat, ∃ v : Nat, pk 256 96 w (a : Int) = (v : Int) ∧ v < (a + 1) * 256 ^ w.length
  | [], _, a => ⟨a, rfl, by simp⟩
  | l :: w, h, a => by
    have hl := h l (by simp)
    obtain ⟨v, e, b⟩ := pk_256 w (fun x hx => h x (by simp [hx])) (a * 256 + (l + 96))
    refine ⟨v, ?_, ?_⟩
    · rw [pk, ← e]
      congr 1
    · rw [List.length_cons, Nat.pow_succ]
      have : (a * 256 + (l + 96) + 1) * 256 ^ w.length ≤ (a + 1) * (256 ^ w.length * 256) := by
        rw [Nat.mul_comm (256 ^ w.length) 256, ← Nat.mul_assoc]
        exact Nat.mul_le_mul_right _ (by omega)
      omega
theorem pk_7 : ∀ (w : List Nat), (∀ l ∈ w, 1 ≤ l ∧ l ≤ 26) → w.length ≤ 7 → ∃ v : Nat, pk 256 96 w 0 = (v : Int) ∧ v < 2 ^ 55
  | [], _, _ => ⟨0, rfl, Nat.two_pow_pos 55⟩
  | l :: w, h, hl => by
    have h1 := h l (by simp)
    obtain ⟨v, e, b⟩ := pk_256 w (fun x hx => h x (by simp [hx])) (l + 96)
    refine ⟨v, ?_, ?_⟩
    · rw [pk, ← e]
      have : (0 : Int) * 256 + ((l : Int) + 96) = ((l + 96 : Nat) : Int) := by omega
      rw [this]
    · rw [List.length_cons] at hl
      have : 256 ^ w.length ≤ 256 ^ 6 := Nat.pow_le_pow_right (by omega) (by omega)
      have c : (256 : Nat) ^ 6 = 281474976710656 := by decide
      have c2 : (2 : Nat) ^ 55 = 36028797018963968 := by decide
      have : (l + 96 + 1) * 256 ^ w.length ≤ 123 * 256 ^ w.length := Nat.mul_le_mul_right _ (by omega)
      omega
theorem m_nameHere (t : TxM tx N g) (hN : N ≤ 900) (s : TokM k f e g) (w : TkW tx N k f e) (hk : k.1 = 1) (h8 : k.2.2.length ≤ 8) : C xs d 107 0 [mR 130] g = some ([mL (pk 256 96 k.2.2 0)], g) := by
  obtain ⟨o1, o2, o3, o4, o5⟩ := tkW_ok w hk
  obtain ⟨v1, v2, v3⟩ := w.2.2.2.1 hk
  obtain ⟨s1, s2, s3, s4⟩ := s
  have e14 := s2 (by omega)
  rw [c_M_nameHere, s1]
  have key : ∀ (m i : Nat), i + m = e - f → X xs d k_M_nameHere 5 [mR 130, mL (pk 256 96 (ltN tx f i) 0), mC 0, mI ((f + i : Nat) : Int)] [] g = some ([mL (pk 256 96 k.2.2 0)], g) := by
    intro m
    induction m with
    | zero =>
      intro i hi
      obtain rfl : i = e - f := by omega
      rw [e_M_nameHere_5, e14]
      refine if_n (by omega) ?_
      rw [v1]
    | succ m ih =>
      intro i hi
      have lo : ∀ l ∈ ltN tx f i, 1 ≤ l ∧ l ≤ 26 := lt_ok (fun j hj => v3 j (by omega))
      obtain ⟨v, p1, p2⟩ := pk_7 (ltN tx f i) lo (by rw [ltN_len]; omega)
      have le := o5 i (by omega)
      have l2 := v3 i (by omega)
      unfold isLt at l2
      rw [decide_eq_true_iff] at l2
      rw [e_M_nameHere_5, e14]
      refine if_y (by omega) ?_
      refine cI_of (m_byteAt t hN) ?_
      rw [bt_in (by omega)]
      refine if_y (by omega) ?_
      obtain ⟨b, hb⟩ : ∃ b : Nat, tx (f + i) = (b : Int) := ⟨(tx (f + i)).toNat, by omega⟩
      have nx := ih (i + 1) (by omega)
      rw [ltN, pk_snoc, p1] at nx
      rw [p1, hb, lor8 p2 (by omega)]
      rw [hb] at nx
      have ev : (v : Int) * 256 + ((((b : Int) - 96).toNat : Nat) + 96) = ((v * 256 + b : Nat) : Int) := by omega
      rw [ev] at nx
      exact nx
  exact key (e - f) 0 (by omega)
theorem m_isName (t : TxM tx N g) (hN : N ≤ 900) (s : TokM k f e g) (w : TkW tx N k f e) : C xs d 106 0 [mR 130, mC 6] g = some ([mI (b2i (tWd k = 0))], g) := by
  have iw := m_inWords (xs := xs) (d := d) t hN s w
  have R := WdR_k w
  obtain ⟨s1, s2, s3, s4⟩ := s
  rw [c_M_isName, s3]
  by_cases z : k.1 = 1
  · obtain ⟨o1, o2, o3, o4, o5⟩ := tkW_ok w z
    rw [if_pos (kdM_w.mpr z), s2 (by omega), s1]
    refine if_y (by omega) ?_
    by_cases y : 8 < e - f
    · refine if_y (by omega) ?_
      rw [b2i_n]
      unfold tWd tIx
      rw [if_pos z, if_pos (by omega)]
      decide
    · refine if_n (by omega) ?_
      refine cI_of (iw) ?_
      have nn : 0 ≤ tWd k := by
        unfold tWd tIx
        rw [if_pos z, if_neg (by omega)]
        exact wof_nn _ _
      unfold WdR at R
      by_cases q : tWd k = 0
      · rw [b2i_y q, if_pos (by omega)]
      · rw [b2i_n q, if_neg (by omega)]
  · rw [if_neg (fun y => z (kdM_w.mp y)), b2i_n]
    unfold tWd
    rw [if_neg z]
    decide
/-- what stands here is a name -/
theorem isName_k (h : tWd k = 0) : k.1 = 1 ∧ k.2.2.length ≤ 8 := by
  unfold tWd tIx at h
  by_cases z : k.1 = 1
  · rw [if_pos z] at h
    by_cases y : 8 < k.2.2.length
    · rw [if_pos y] at h; omega
    · exact ⟨z, by omega⟩
  · rw [if_neg z] at h; omega
theorem m_findHere (t : TxM tx N g) (hN : N ≤ 900) (s : TokM k f e g) (w : TkW tx N k f e) (hk : tWd k = 0) {B n : Nat} (hB : B + n ≤ 42) : C xs d 108 0 [mR 130, mI (B : Int), mI (n : Int)] g = some ([mI (fdI (fun p => g 132 ((B : Int) + p)) (pk 256 96 k.2.2 0) n 0)], g) := by
  obtain ⟨h1, h2⟩ := isName_k hk
  rw [c_M_findHere]
  have key : ∀ (m i : Nat), i + m = n → X xs d k_M_findHere 2 [mR 130, mI (B : Int), mI (n : Int), mI (i : Int)] [] g = some ([mI (fdI (fun p => g 132 ((B : Int) + p)) (pk 256 96 k.2.2 0) m i)], g) := by
    intro m
    induction m with
    | zero =>
      intro i hi
      rw [e_M_findHere_2, fdI]
      refine if_n (by omega) ?_
      rfl
    | succ m ih =>
      intro i hi
      rw [e_M_findHere_2, fdI]
      refine if_y (by omega) ?_
      refine if_y (by omega) ?_
      refine if_y (by omega) ?_
      refine cL_of (m_nameHere t hN s w h1 h2) ?_
      by_cases z : g 132 ((B : Int) + (i : Int)) = pk 256 96 k.2.2 0
      · rw [if_pos z, if_pos z]
      · rw [if_neg z, if_neg z]
        refine if_y (by omega) ?_
        exact ih (i + 1) (by omega)
  exact key n 0 (by omega)
/-- both find the same one -/
theorem find_eq (w : TkW tx N k f e) (hk : tWd k = 0) {nT nM : Int → Int} {n : Nat} (R : NmR nT nM (n : Int)) : fdI nM (pk 256 96 k.2.2 0) n 0 = fdI nT (pk 32 0 k.2.2 0) n 0 := by
  obtain ⟨h1, h2⟩ := isName_k hk
  refine fdI_eq n 0 (fun j _ hj => ?_)
  obtain ⟨v, q1, q2, q3⟩ := R (j : Int) (by omega) (by omega)
  obtain ⟨e1, e2⟩ := pk_iff q1.2 (tkW_ok w h1).1
  rw [q2, q3, e1, e2]
end
/-- what is at fault -/
def flt (k : Tk) (why : Int) : Int := if k.1 = 4 then 1 else why
def flT (k : Tk) (f : Nat) (why : Int) (g : mM) : mM := upM (upM g 9 11 (flt k why)) 9 12 (f : Int)
def flM (k : Tk) (f : Nat) (why : Int) (g : mM) : mM := upM (upM g 130 18 (flt k why)) 130 17 (f : Int)
def FrT (h g : mM) : Prop := (∀ a, a ≠ 9 → (a < 37 ∨ 55 < a) → g a = h a) ∧ ∀ j, (j = 2 ∨ j = 3) → g 9 j = h 9 j
def FrM (h g : mM) : Prop := (∀ a, a ≠ 130 → a ≠ 131 → a ≠ 132 → a ≠ 138 → g a = h a) ∧ (∀ j, (j < 12 ∨ j = 16 ∨ j = 19 ∨ 23 < j) → g 130 j = h 130 j) ∧ (∀ j, j < 1656 → g 131 j = h 131 j) ∧ ∀ j, j < 28 → g 132 j = h 132 j
section
variable {hT hM : mM} {g g' : mM}
theorem FrT.ts (p : FrT hT g) (q : TsF g g') : FrT hT g' := ⟨fun a h1 h2 => (q.1 a h1).trans (p.1 a h1 h2), fun j hj => (q.2 j (by omega)).trans (p.2 j hj)⟩
theorem FrT.up (p : FrT hT g) {b : Nat} (hb : 37 ≤ b ∧ b ≤ 55) {i v : Int} : FrT hT (upM g b i v) := ⟨fun a h1 h2 => by rw [up_row (by omega)]; exact p.1 a h1 h2, fun j hj => by rw [up_ne (by omega)]; exact p.2 j hj⟩
theorem FrT.fl (p : FrT hT g) {k : Tk} {f : Nat} {why : Int} : FrT hT (flT k f why g) := ⟨fun a h1 h2 => by rw [flT, up_row h1, up_row h1]; exact p.1 a h1 h2, fun j hj => by rw [flT, up_at, if_neg (by omega), up_at, if_neg (by omega)]; exact p.2 j hj⟩
theorem FrM.tm (p : FrM hM g) (q : TmF g g') : FrM hM g' := ⟨fun a h1 h2 h3 h4 => (q.1 a h1).trans (p.1 a h1 h2 h3 h4), fun j hj => (q.2 j (by omega)).trans (p.2.1 j hj), fun j hj => by rw [q.1 131 (by omega)]; exact p.2.2.1 j hj, fun j hj => by rw [q.1 132 (by omega)]; exact p.2.2.2 j hj⟩
theorem FrM.u131 (p : FrM hM g) {i v : Int} (hi : 1656 ≤ i) : FrM hM (upM g 131 i v) := ⟨fun a h1 h2 h3 h4 => by rw [up_row h2]; exact p.1 a h1 h2 h3 h4, fun j hj => by rw [up_ne (by omega)]; exact p.2.1 j hj, fun j hj => by rw [up_at, if_neg (by omega)]; exact p.2.2.1 j hj, fun j hj => by rw [up_ne (by omega)]; exact p.2.2.2 j hj⟩
theorem FrM.u132 (p : FrM hM g) {i v : Int} (hi : 28 ≤ i) : FrM hM (upM g 132 i v) := ⟨fun a h1 h2 h3 h4 => by rw [up_row h3]; exact p.1 a h1 h2 h3 h4, fun j hj => by rw [up_ne (by omega)]; exact p.2.1 j hj, fun j hj => by rw [up_ne (by omega)]; exact p.2.2.1 j hj, fun j hj => by rw [up_at, if_neg (by omega)]; exact p.2.2.2 j hj⟩
theorem FrM.u138 (p : FrM hM g) {i v : Int} : FrM hM (upM g 138 i v) := ⟨fun a h1 h2 h3 h4 => by rw [up_row h4]; exact p.1 a h1 h2 h3 h4, fun j hj => by rw [up_ne (by omega)]; exact p.2.1 j hj, fun j hj => by rw [up_ne (by omega)]; exact p.2.2.1 j hj, fun j hj => by rw [up_ne (by omega)]; exact p.2.2.2 j hj⟩
theorem FrM.u130 (p : FrM hM g) {i v : Int} (hi : i = 20 ∨ i = 22 ∨ i = 23) : FrM hM (upM g 130 i v) := ⟨fun a h1 h2 h3 h4 => by rw [up_row h1]; exact p.1 a h1 h2 h3 h4, fun j hj => by rw [up_at, if_neg (by omega)]; exact p.2.1 j hj, fun j hj => by rw [up_ne (by omega)]; exact p.2.2.1 j hj, fun j hj => by rw [up_ne (by omega)]; exact p.2.2.2 j hj⟩
theorem FrM.fl (p : FrM hM g) {k : Tk} {f : Nat} {why : Int} : FrM hM (flM k f why g) := ⟨fun a h1 h2 h3 h4 => by rw [flM, up_row h1, up_row h1]; exact p.1 a h1 h2 h3 h4, fun j hj => by rw [flM, up_at, if_neg (by omega), up_at, if_neg (by omega)]; exact p.2.1 j hj, fun j hj => by rw [flM, up_ne (by omega), up_ne (by omega)]; exact p.2.2.1 j hj, fun j hj => by rw [flM, up_ne (by omega), up_ne (by omega)]; exact p.2.2.2 j hj⟩
end
/-- both stand at the same token, and nothing was at fault so far -/
def RdS (hT hM : mM) (tx : Nat → Int) (N : Nat) (k : Tk) (f e : Nat) (gT gM : mM) : Prop := TxT tx N gT ∧ TxM tx N gM ∧ N ≤ 900 ∧ TokT k f e gT ∧ TokM k f e gM ∧ TkW tx N k f e ∧ (∀ i, 1 ≤ i → i ≤ 23 → gT 11 i = (nth WL i.toNat).getD 0) ∧ (gT 9 11 = 0 ∧ gT 9 12 = -1) ∧ (gM 130 18 = 0 ∧ gM 130 17 = -1) ∧ FrT hT gT ∧ FrM hM gM
/-- both found the same fault -/
def Flt (hT hM : mM) (gT gM : mM) : Prop := FrT hT gT ∧ FrM hM gM ∧ gT 9 11 = gM 130 18 ∧ gT 9 12 = gM 130 17 ∧ 0 < gM 130 18
section
variable {xs : List Int} {d : Nat} {hT hM : mM} {tx : Nat → Int} {N : Nat} {gT gM : mM} {k : Tk} {f e : Nat}
theorem RdS.uT (S : RdS hT hM tx N k f e gT gM) {b : Nat} (hb : 37 ≤ b ∧ b ≤ 55) {i v : Int} : RdS hT hM tx N k f e (upM gT b i v) gM := by
  obtain ⟨a1, a2, a3, a4, a5, a6, a7, a8, a9, a10, a11⟩ := S
  have e9 : upM gT b i v 9 = gT 9 := up_row (by omega)
  refine ⟨?_, a2, a3, ?_, a5, a6, fun j h1 h2 => by rw [up_ne (by omega)]; exact a7 j h1 h2, by rw [e9]; exact a8, a9, a10.up hb, a11⟩
  · unfold TxT
    rw [e9, up_row (show (10 : Nat) ≠ b by omega)]
    exact a1
  · unfold TokT
    rw [e9]
    exact a4
theorem RdS.uM (S : RdS hT hM tx N k f e gT gM) {b : Nat} {i v : Int} (hb : (b = 131 ∧ 1656 ≤ i) ∨ (b = 132 ∧ 28 ≤ i) ∨ b = 138) : RdS hT hM tx N k f e gT (upM gM b i v) := by
  obtain ⟨a1, a2, a3, a4, a5, a6, a7, a8, a9, a10, a11⟩ := S
  have e9 : upM gM b i v 130 = gM 130 := up_row (by omega)
  refine ⟨a1, ?_, a3, a4, ?_, a6, a7, a8, by rw [e9]; exact a9, a10, ?_⟩
  · unfold TxM
    rw [e9, up_row (show (137 : Nat) ≠ b by omega)]
    exact a2
  · unfold TokM
    rw [e9]
    exact a5
  · rcases hb with ⟨rfl, h⟩ | ⟨rfl, h⟩ | rfl
    · exact a11.u131 h
    · exact a11.u132 h
    · exact a11.u138
theorem RdS.u130 (S : RdS hT hM tx N k f e gT gM) {i v : Int} (hi : i = 20 ∨ i = 22 ∨ i = 23) : RdS hT hM tx N k f e gT (upM gM 130 i v) := by
  obtain ⟨a1, a2, a3, a4, a5, a6, a7, a8, a9, a10, a11⟩ := S
  have e9 : ∀ j, j ≠ i → upM gM 130 i v 130 j = gM 130 j := fun j hj => by rw [up_at, if_neg hj]
  refine ⟨a1, ?_, a3, a4, ?_, a6, a7, a8, by rw [e9 18 (by omega), e9 17 (by omega)]; exact a9, a10, a11.u130 hi⟩
  · unfold TxM
    rw [e9 11 (by omega), up_row (show (137 : Nat) ≠ 130 by omega)]
    exact a2
  · unfold TokM
    rw [e9 13 (by omega), e9 14 (by omega), e9 12 (by omega), e9 15 (by omega)]
    exact a5
theorem RdS.fault (S : RdS hT hM tx N k f e gT gM) {why : Int} (hw : 0 < why) : Flt hT hM (flT k f why gT) (flM k f why gM) := by
  obtain ⟨a1, a2, a3, a4, a5, a6, a7, a8, a9, a10, a11⟩ := S
  refine ⟨a10.fl, a11.fl, ?_, ?_, ?_⟩
  · rw [flT, flM, up_at, if_neg (by omega), up_eq, up_at, if_neg (by omega), up_eq]
  · rw [flT, flM, up_eq, up_eq]
  · rw [flM, up_at, if_neg (by omega), up_eq]
    unfold flt
    split <;> omega
theorem t_object (t : TokT k f e gT) (why : Int) : C xs d 305 0 [mR 9, mI why] gT = some ([mI 0], flT k f why gT) := by
  obtain ⟨t1, t2, t3, t4⟩ := t
  unfold flT flt
  rw [c_Tp_object, t3, t1]
  by_cases z : k.1 = 4
  · rw [if_pos z, if_pos z]
  · rw [if_neg z, if_neg z]
theorem m_fails (t : TokM k f e gM) (h0 : gM 130 18 = 0) (why : Int) : C xs d 101 0 [mR 130, mI why] gM = some ([mI 0], flM k f why gM) := by
  obtain ⟨t1, t2, t3, t4⟩ := t
  unfold flM flt
  rw [c_M_fails, h0, t3, t1]
  by_cases z : k.1 = 4
  · rw [if_pos rfl, if_pos (kdM_b.mpr z), if_pos z]
  · rw [if_pos rfl, if_neg (fun y => z (kdM_b.mp y)), if_neg z]
theorem RdS.oT (S : RdS hT hM tx N k f e gT gM) (why : Int) : C xs d 305 0 [mR 9, mI why] gT = some ([mI 0], flT k f why gT) := t_object S.2.2.2.1 why
theorem RdS.oM (S : RdS hT hM tx N k f e gT gM) (why : Int) : C xs d 101 0 [mR 130, mI why] gM = some ([mI 0], flM k f why gM) := m_fails S.2.2.2.2.1 S.2.2.2.2.2.2.2.2.1.1 why
theorem RdS.w9 (S : RdS hT hM tx N k f e gT gM) : gT 9 9 = tWd k := S.2.2.2.1.2.2.2.2.1
theorem RdS.wM (S : RdS hT hM tx N k f e gT gM) : C xs d 100 0 [mR 130, mC 6] gM = some ([mI (mWd k)], gM) := m_inWords S.2.1 S.2.2.1 S.2.2.2.2.1 S.2.2.2.2.2.1
theorem RdS.nM (S : RdS hT hM tx N k f e gT gM) : C xs d 106 0 [mR 130, mC 6] gM = some ([mI (b2i (tWd k = 0))], gM) := m_isName S.2.1 S.2.2.1 S.2.2.2.2.1 S.2.2.2.2.2.1
theorem RdS.wd (S : RdS hT hM tx N k f e gT gM) : WdR (tWd k) (mWd k) := WdR_k S.2.2.2.2.2.1
theorem RdS.n10 (S : RdS hT hM tx N k f e gT gM) (h : tWd k = 0) : gT 9 10 = pk 32 0 k.2.2 0 := S.2.2.2.1.2.2.2.2.2.2 (isName_k h).1 (isName_k h).2
theorem RdS.nH (S : RdS hT hM tx N k f e gT gM) (h : tWd k = 0) : C xs d 107 0 [mR 130] gM = some ([mL (pk 256 96 k.2.2 0)], gM) := m_nameHere S.2.1 S.2.2.1 S.2.2.2.2.1 S.2.2.2.2.2.1 (isName_k h).1 (isName_k h).2
theorem wd_4 (h : 0 ≤ tWd k) : k.1 ≠ 4 ∧ k.1 ≠ 0 := by
  unfold tWd at h
  by_cases z : k.1 = 1
  · omega
  · rw [if_neg z] at h; omega
/-- the next token -/
theorem nxt (S : RdS hT hM tx N k f e gT gM) (h4 : k.1 ≠ 4) : ∃ gT' gM' k' f' e', C xs d 310 0 [mR 9] gT = some ([], gT') ∧ C xs d 98 0 [mR 130] gM = some ([], gM') ∧ RdS hT hM tx N k' f' e' gT' gM' ∧ (k.1 ≠ 0 → f < f') ∧ TsF gT gT' ∧ TmF gM gM' := by
  obtain ⟨a1, a2, a3, a4, a5, a6, a7, a8, a9, a10, a11⟩ := S
  have eN := a6.2.2.1 h4
  obtain ⟨gT', r1, r2, r3⟩ := t_step (xs := xs) (d := d) a7 a1 a3 eN (a4.2.1 h4)
  obtain ⟨gM', s1, s2, s3⟩ := m_ahead (xs := xs) (d := d) a2 a3 eN (a5.2.1 h4)
  have fl := runN_le (P := isB) (tx := tx) (N - e) e
  refine ⟨gT', gM', _, _, _, r1, s1, ⟨a1.f r3, a2.f s3, a3, r2, s2, tkF_W (by unfold frP; omega), fun i h1 h2 => by rw [r3.1 11 (by omega)]; exact a7 i h1 h2, by rw [r3.2 11 (by omega), r3.2 12 (by omega)]; exact a8, by rw [s3.2 18 (by omega), s3.2 17 (by omega)]; exact a9, a10.ts r3, a11.tm s3⟩, fun h0 => ?_, r3, s3⟩
  have := a6.2.2.2.2.2.2 h0
  unfold frP
  omega
theorem t_isNumber (t : TokT k f e gT) (l m : Int) : C xs d 308 0 [mR 9, mI l, mI m] gT = if k.1 = 2 ∧ l ≤ k.2.1 ∧ k.2.1 ≤ m then some ([mI 1], gT) else some ([mI 0], flT k f (if k.1 = 2 then 4 else 2) gT) := by
  have ob := fun w => t_object (xs := xs) (d := d) t w
  obtain ⟨t1, t2, t3, t4, t5, t6, t7⟩ := t
  rw [c_Tp_isNumber, t3]
  by_cases z : k.1 = 2
  · rw [if_pos z, if_pos z, t6 z]
    by_cases y : k.2.1 < l
    · rw [if_pos y, if_neg (by omega)]
      refine cI_of (ob 4) ?_
      rfl
    · rw [if_neg y]
      by_cases u : m < k.2.1
      · rw [if_pos u, if_neg (by omega)]
        refine cI_of (ob 4) ?_
        rfl
      · rw [if_neg u, if_pos (by omega)]
  · rw [if_neg z, if_neg z, if_neg (fun y => z y.1)]
    refine cI_of (ob 2) ?_
    rfl
theorem m_number (t : TokM k f e gM) (h0 : gM 130 18 = 0) {a : Int} (l m : Int) (ha : 0 ≤ a ∧ a < 2346) : C xs d 105 0 [mR 130, mI a, mI l, mI m] gM = if k.1 = 2 ∧ l ≤ k.2.1 ∧ k.2.1 ≤ m then cV (C xs d 98 0 [mR 130] (upM gM 131 a k.2.1)) (fun h2 => some ([mI 1], h2)) else some ([mI 0], flM k f (if k.1 = 2 then 4 else 2) gM) := by
  have ob := fun w => m_fails (xs := xs) (d := d) t h0 w
  obtain ⟨t1, t2, t3, t4⟩ := t
  rw [c_M_number, t3]
  by_cases z : k.1 = 2
  · rw [if_pos (kdM_n.mpr z), if_pos z, t4 (Or.inl z)]
    by_cases y : k.2.1 < l
    · rw [if_pos y, if_neg (by omega)]
      refine cI_of (ob 4) ?_
      rfl
    · rw [if_neg y]
      by_cases u : m < k.2.1
      · rw [if_pos u, if_neg (by omega)]
        refine cI_of (ob 4) ?_
        rfl
      · rw [if_neg u, if_pos (show k.1 = 2 ∧ l ≤ k.2.1 ∧ k.2.1 ≤ m from ⟨z, by omega, by omega⟩)]
        refine if_y (by omega) ?_
        rfl
  · rw [if_neg (fun y => z (kdM_n.mp y)), if_neg z, if_neg (fun y => z y.1)]
    refine cI_of (ob 2) ?_
    rfl
/-- a number that goes into a row of a draft of each -/
theorem p_num (S : RdS hT hM tx N k f e gT gM) {a l m i : Int} {b : Nat} (ha : 1656 ≤ a ∧ a < 2346) (hb : 37 ≤ b ∧ b ≤ 55) : (∃ v gT' gM' k' f' e', C xs d 308 0 [mR 9, mI l, mI m] gT = some ([mI 1], gT) ∧ gT 9 7 = v ∧ (l ≤ v ∧ v ≤ m) ∧ C xs d 310 0 [mR 9] (upM gT b i v) = some ([], gT') ∧ C xs d 105 0 [mR 130, mI a, mI l, mI m] gM = some ([mI 1], gM') ∧ RdS hT hM tx N k' f' e' gT' gM' ∧ f < f' ∧ TsF (upM gT b i v) gT' ∧ TmF (upM gM 131 a v) gM') ∨ (∃ gT' gM', C xs d 308 0 [mR 9, mI l, mI m] gT = some ([mI 0], gT') ∧ C xs d 105 0 [mR 130, mI a, mI l, mI m] gM = some ([mI 0], gM') ∧ Flt hT hM gT' gM') := by
  have tn := t_isNumber (xs := xs) (d := d) S.2.2.2.1 l m
  have mn := m_number (xs := xs) (d := d) S.2.2.2.2.1 S.2.2.2.2.2.2.2.2.1.1 (a := a) l m (by omega)
  by_cases z : k.1 = 2 ∧ l ≤ k.2.1 ∧ k.2.1 ≤ m
  · rw [if_pos z] at tn mn
    obtain ⟨gT', gM', k', f', e', r1, r2, r3, r4, r5, r6⟩ := nxt (xs := xs) (d := d) ((S.uT hb (i := i) (v := k.2.1)).uM (b := 131) (i := a) (v := k.2.1) (by omega)) (by omega)
    refine Or.inl ⟨k.2.1, gT', gM', k', f', e', tn, S.2.2.2.1.2.2.2.2.2.1 z.1, z.2, r1, ?_, r3, r4 (by omega), r5, r6⟩
    rw [mn, r2]
    rfl
  · rw [if_neg z] at tn mn
    exact Or.inr ⟨_, _, tn, mn, S.fault (by split <;> omega)⟩
theorem p_semi (S : RdS hT hM tx N k f e gT gM) : (∃ gT' gM' k' f' e', C xs d 307 0 [mR 9] gT = some ([mI 1], gT') ∧ C xs d 103 0 [mR 130, mI 59] gM = some ([mI 1], gM') ∧ RdS hT hM tx N k' f' e' gT' gM' ∧ f < f' ∧ TsF gT gT' ∧ TmF gM gM') ∨ (∃ gT' gM', C xs d 307 0 [mR 9] gT = some ([mI 0], gT') ∧ C xs d 103 0 [mR 130, mI 59] gM = some ([mI 0], gM') ∧ Flt hT hM gT' gM') := by
  have t8 : gT 9 8 = sgn k := S.2.2.2.1.2.2.2.1
  have m12 := S.2.2.2.2.1.2.2.1
  have m15 := S.2.2.2.2.1.2.2.2
  rw [c_Tp_passSemicolon, t8, c_M_wantSign, c_M_isSign, m12]
  by_cases z : k.1 = 3 ∧ k.2.1 = 59
  · have es : sgn k = 59 := by unfold sgn; rw [if_pos z.1]; exact z.2
    obtain ⟨gT', gM', k', f', e', r1, r2, r3, r4, r5, r6⟩ := nxt (xs := xs) (d := d) S (by omega)
    refine Or.inl ⟨gT', gM', k', f', e', ?_, ?_, r3, r4 (by omega), r5, r6⟩
    · rw [if_pos es, r1]
      rfl
    · rw [if_pos (kdM_s.mpr z.1), m15 (Or.inr z.1), if_pos z.2]
      refine cI_of rfl ?_
      rw [if_neg (by decide), r2]
      rfl
  · have es : ¬ sgn k = 59 := by
      unfold sgn
      by_cases y : k.1 = 3
      · rw [if_pos y]; omega
      · rw [if_neg y]; decide
    refine Or.inr ⟨_, _, ?_, ?_, S.fault (why := 2) (by omega)⟩
    · rw [if_neg es]
      refine cI_of (S.oT 2) ?_
      rfl
    · have : (if kdM k = 4 then (if gM 130 15 = 59 then some ([mI 1], gM) else some ([mI 0], gM)) else some ([mI 0], gM)) = some ([mI 0], gM) := by
        by_cases y : k.1 = 3
        · rw [if_pos (kdM_s.mpr y), m15 (Or.inr y), if_neg (by omega)]
        · rw [if_neg (fun u => y (kdM_s.mp u))]
      rw [this]
      refine cI_of rfl ?_
      rw [if_pos rfl]
      refine cI_of (S.oM 2) ?_
      rfl
theorem p_word (S : RdS hT hM tx N k f e gT gM) {t m : Int} (ht : 1 ≤ t) (hw : WdR t m) : (∃ gT' gM' k' f' e', C xs d 306 0 [mR 9, mI t] gT = some ([mI 1], gT') ∧ C xs d 104 0 [mR 130, mC 6, mI m] gM = some ([mI 1], gM') ∧ RdS hT hM tx N k' f' e' gT' gM' ∧ f < f' ∧ TsF gT gT' ∧ TmF gM gM') ∨ (∃ gT' gM', C xs d 306 0 [mR 9, mI t] gT = some ([mI 0], gT') ∧ C xs d 104 0 [mR 130, mC 6, mI m] gM = some ([mI 0], gM') ∧ Flt hT hM gT' gM') := by
  have R := S.wd
  unfold WdR at R hw
  rw [c_Tp_passWord, S.w9, c_M_wantWord]
  by_cases z : tWd k = t
  · obtain ⟨z4, z0⟩ := wd_4 (k := k) (by omega)
    obtain ⟨gT', gM', k', f', e', r1, r2, r3, r4, r5, r6⟩ := nxt (xs := xs) (d := d) S z4
    refine Or.inl ⟨gT', gM', k', f', e', ?_, ?_, r3, r4 z0, r5, r6⟩
    · rw [if_pos z, r1]
      rfl
    · refine cI_of (S.wM) ?_
      rw [if_pos (by omega), r2]
      rfl
  · refine Or.inr ⟨_, _, ?_, ?_, S.fault (why := 2) (by omega)⟩
    · rw [if_neg z]
      refine cI_of (S.oT 2) ?_
      rfl
    · refine cI_of (S.wM) ?_
      rw [if_neg (by omega)]
      refine cI_of (S.oM 2) ?_
      rfl
end
