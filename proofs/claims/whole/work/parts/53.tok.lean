/-! EQUIV 23: the tokens of a text -/
def isB (x : Int) : Bool := decide (x = 10 ∨ x = 32)
def isLt (x : Int) : Bool := decide (97 ≤ x ∧ x ≤ 122)
def isDg (x : Int) : Bool := decide (48 ≤ x ∧ x ≤ 57)
def isSg (x : Int) : Bool := decide (x = 59 ∨ x = 60 ∨ x = 62 ∨ x = 61)
/-- the first place from one on that is not so -/
def runN (P : Int → Bool) (tx : Nat → Int) : Nat → Nat → Nat
  | 0, p => p
  | m + 1, p => if P (tx p) = true then runN P tx m (p + 1) else p
theorem runN_le {P : Int → Bool} {tx : Nat → Int} : ∀ m p, p ≤ runN P tx m p ∧ runN P tx m p ≤ p + m
  | 0, p => ⟨Nat.le_refl _, Nat.le_refl _⟩
  | m + 1, p => by
    have := runN_le (P := P) (tx := tx) m (p + 1)
    rw [runN]
    split <;> omega
theorem runN_all {P : Int → Bool} {tx : Nat → Int} : ∀ m p i, p ≤ i → i < runN P tx m p → P (tx i) = true
  | 0, p, i, h1, h2 => by rw [runN] at h2; omega
  | m + 1, p, i, h1, h2 => by
    rw [runN] at h2
    by_cases z : P (tx p) = true
    · rw [if_pos z] at h2
      by_cases e : i = p
      · rw [e]; exact z
      · exact runN_all m (p + 1) i (by omega) h2
    · rw [if_neg z] at h2
      omega
/-- so many letters from a place on -/
def ltN (tx : Nat → Int) (f : Nat) : Nat → List Nat
  | 0 => []
  | n + 1 => ltN tx f n ++ [(tx (f + n) - 96).toNat]
def nvN (tx : Nat → Int) (f : Nat) : Nat → Int
  | 0 => 0
  | n + 1 => nvN tx f n * 10 + (tx (f + n) - 48)
theorem ltN_len {tx : Nat → Int} {f : Nat} : ∀ n, (ltN tx f n).length = n
  | 0 => rfl
  | n + 1 => by rw [ltN, List.length_append, ltN_len n]; rfl
theorem ltN_get {tx : Nat → Int} {f : Nat} : ∀ n i, i < n → (ltN tx f n).getD i 0 = (tx (f + i) - 96).toNat
  | 0, i, h => by omega
  | n + 1, i, h => by
    rw [ltN, List.getD_eq_getElem?_getD]
    by_cases e : i < n
    · rw [List.getElem?_append_left (by rw [ltN_len]; exact e), ← List.getD_eq_getElem?_getD]
      exact ltN_get n i e
    · obtain rfl : i = n := by omega
      rw [List.getElem?_append_right (by rw [ltN_len]; omega), ltN_len, Nat.sub_self]
      rfl
theorem ltN_mem {tx : Nat → Int} {f : Nat} : ∀ n l, l ∈ ltN tx f n → ∃ i, i < n ∧ l = (tx (f + i) - 96).toNat
  | 0, l, h => by cases h
  | n + 1, l, h => by
    rw [ltN, List.mem_append, List.mem_singleton] at h
    rcases h with h | h
    · obtain ⟨i, a, b⟩ := ltN_mem n l h
      exact ⟨i, by omega, b⟩
    · exact ⟨n, by omega, h⟩
/-- a token: its kind (0 the end, 1 a word, 2 a number, 3 a sign, 4 nothing), its value, its letters -/
abbrev Tk := Int × Int × List Nat
def nbT (tx : Nat → Int) (f e : Nat) : Tk := if 4 < e - f then (4, 0, []) else (2, nvN tx f (e - f), [])
/-- the token at a place, and where it ends -/
def tkF (tx : Nat → Int) (N f : Nat) : Tk × Nat :=
  if N ≤ f then ((0, 0, []), f)
  else if isLt (tx f) = true then ((1, 0, ltN tx f (runN isLt tx (N - f) f - f)), runN isLt tx (N - f) f)
  else if isDg (tx f) = true then (nbT tx f (runN isDg tx (N - f) f), runN isDg tx (N - f) f)
  else if isSg (tx f) = true then ((3, tx f, []), f + 1)
  else ((4, 0, []), f + 1)
/-- where the next token begins -/
abbrev frP (tx : Nat → Int) (N p : Nat) : Nat := runN isB tx (N - p) p
theorem pk_snoc {B o : Int} : ∀ (w : List Nat) (l : Nat) (a : Int), pk B o (w ++ [l]) a = pk B o w a * B + ((l : Int) + o)
  | [], l, a => rfl
  | x :: w, l, a => pk_snoc w l _
/-- which of the words of the class has these letters -/
def wof (x : Int) : Nat → Nat → Int
  | 0, _ => 0
  | m + 1, i => if (nth WL i).getD 0 = x then (i : Int) else wof x m (i + 1)
def tIx (w : List Nat) : Int := if 8 < w.length then -1 else wof (pk 32 0 w 0) 23 1
def tWd (k : Tk) : Int := if k.1 = 1 then tIx k.2.2 else -1
def sgn (k : Tk) : Int := if k.1 = 3 then k.2.1 else 0
def kdM (k : Tk) : Int := if k.1 = 1 then 2 else if k.1 = 2 then 3 else if k.1 = 3 then 4 else if k.1 = 4 then 1 else 0
/-- the tape of the class holds this text, and at this token it is -/
def TxT (tx : Nat → Int) (N : Nat) (g : mM) : Prop := g 9 3 = (N : Int) ∧ ∀ i : Nat, i < N → (-128 ≤ g 10 (i : Int) ∧ g 10 (i : Int) ≤ 127) ∧ tx i = if g 10 (i : Int) < 0 then g 10 (i : Int) + 256 else g 10 (i : Int)
def TokT (k : Tk) (f e : Nat) (g : mM) : Prop := g 9 6 = (f : Int) ∧ (k.1 ≠ 4 → g 9 4 = (e : Int)) ∧ g 9 5 = k.1 ∧ g 9 8 = sgn k ∧ g 9 9 = tWd k ∧ (k.1 = 2 → g 9 7 = k.2.1) ∧ (k.1 = 1 → k.2.2.length ≤ 8 → g 9 10 = pk 32 0 k.2.2 0)
/-- but for the token nothing has changed -/
def TsF (g g' : mM) : Prop := (∀ a, a ≠ 9 → g' a = g a) ∧ ∀ j, (j = 2 ∨ j = 3 ∨ j = 11 ∨ j = 12) → g' 9 j = g 9 j
theorem TsF.rf {g : mM} : TsF g g := ⟨fun _ _ => rfl, fun _ _ => rfl⟩
theorem TsF.tr {g k l : mM} (a : TsF g k) (b : TsF k l) : TsF g l := ⟨fun x h => (b.1 x h).trans (a.1 x h), fun j h => (b.2 j h).trans (a.2 j h)⟩
theorem TsF.up {g k : mM} (a : TsF g k) {i v : Int} (h : i ≠ 2 ∧ i ≠ 3 ∧ i ≠ 11 ∧ i ≠ 12) : TsF g (upM k 9 i v) := ⟨fun x hx => by rw [up_row hx]; exact a.1 x hx, fun j hj => by rw [up_at, if_neg (by omega)]; exact a.2 j hj⟩
theorem TxT.f {tx : Nat → Int} {N : Nat} {g g' : mM} (t : TxT tx N g) (f : TsF g g') : TxT tx N g' := ⟨by rw [f.2 3 (by omega)]; exact t.1, fun i hi => by rw [f.1 10 (by omega)]; exact t.2 i hi⟩
section
variable {xs : List Int} {d : Nat} {tx : Nat → Int} {N : Nat} {g : mM}
theorem TxT.b (t : TxT tx N g) {i : Nat} (hi : i < N) : C xs d 315 0 [mI (g 10 (i : Int))] g = some ([mI (b2i (isB (tx i) = true))], g) := by
  obtain ⟨a, b⟩ := t.2 i hi
  unfold isB
  rw [c_Tp_isBlank]
  by_cases z : g 10 (i : Int) = 10
  · rw [if_pos z, b2i_y]
    rw [decide_eq_true_iff, b, if_neg (by omega)]; omega
  · rw [if_neg z]
    by_cases y : g 10 (i : Int) = 32
    · rw [if_pos y, b2i_y]
      rw [decide_eq_true_iff, b, if_neg (by omega)]; omega
    · rw [if_neg y, b2i_n]
      rw [decide_eq_true_iff, b]
      split <;> omega
theorem TxT.l (t : TxT tx N g) {i : Nat} (hi : i < N) (h : mM) : C xs d 316 0 [mI (g 10 (i : Int))] h = some ([mI (b2i (isLt (tx i) = true))], h) := by
  obtain ⟨a, b⟩ := t.2 i hi
  unfold isLt
  rw [c_Tp_isLetter]
  by_cases z : g 10 (i : Int) < 97
  · rw [if_pos z, b2i_n]
    rw [decide_eq_true_iff, b]
    split <;> omega
  · rw [if_neg z]
    by_cases y : 122 < g 10 (i : Int)
    · rw [if_pos y, b2i_n]
      rw [decide_eq_true_iff, b]
      split <;> omega
    · rw [if_neg y, b2i_y]
      rw [decide_eq_true_iff, b, if_neg (by omega)]; omega
theorem TxT.dg (t : TxT tx N g) {i : Nat} (hi : i < N) (h : mM) : C xs d 317 0 [mI (g 10 (i : Int))] h = some ([mI (b2i (isDg (tx i) = true))], h) := by
  obtain ⟨a, b⟩ := t.2 i hi
  unfold isDg
  rw [c_Tp_isDigit]
  by_cases z : g 10 (i : Int) < 48
  · rw [if_pos z, b2i_n]
    rw [decide_eq_true_iff, b]
    split <;> omega
  · rw [if_neg z]
    by_cases y : 57 < g 10 (i : Int)
    · rw [if_pos y, b2i_n]
      rw [decide_eq_true_iff, b]
      split <;> omega
    · rw [if_neg y, b2i_y]
      rw [decide_eq_true_iff, b, if_neg (by omega)]; omega
theorem TxT.s (t : TxT tx N g) {i : Nat} (hi : i < N) (h : mM) : C xs d 318 0 [mI (g 10 (i : Int))] h = some ([mI (b2i (isSg (tx i) = true))], h) := by
  obtain ⟨a, b⟩ := t.2 i hi
  unfold isSg
  rw [c_Tp_isSign]
  by_cases z : g 10 (i : Int) = 59
  · rw [if_pos z, b2i_y]
    rw [decide_eq_true_iff, b, if_neg (by omega)]; omega
  rw [if_neg z]
  by_cases z1 : g 10 (i : Int) = 60
  · rw [if_pos z1, b2i_y]
    rw [decide_eq_true_iff, b, if_neg (by omega)]; omega
  rw [if_neg z1]
  by_cases z2 : g 10 (i : Int) = 62
  · rw [if_pos z2, b2i_y]
    rw [decide_eq_true_iff, b, if_neg (by omega)]; omega
  rw [if_neg z2]
  by_cases z3 : g 10 (i : Int) = 61
  · rw [if_pos z3, b2i_y]
    rw [decide_eq_true_iff, b, if_neg (by omega)]; omega
  rw [if_neg z3, b2i_n]
  rw [decide_eq_true_iff, b]
  split <;> omega
theorem TxT.v (t : TxT tx N g) {i : Nat} (hi : i < N) (h : 0 ≤ g 10 (i : Int)) : g 10 (i : Int) = tx i := by
  obtain ⟨a, b⟩ := t.2 i hi
  rw [b, if_neg (by omega)]
theorem TxT.p (t : TxT tx N g) {i : Nat} (hi : i < N) (h : tx i < 128) : g 10 (i : Int) = tx i := by
  obtain ⟨a, b⟩ := t.2 i hi
  rw [b] at h ⊢
  by_cases z : g 10 (i : Int) < 0
  · rw [if_pos z] at h
    omega
  · rw [if_neg z]
theorem t_wordOf (hw : ∀ i, 1 ≤ i → i ≤ 23 → g 11 i = (nth WL i.toNat).getD 0) (x : Int) : C xs d 313 0 [mR 9, mL x] g = some ([mI (wof x 23 1)], g) := by
  rw [c_Tp_wordOf]
  have key : ∀ (m i : Nat), i + m = 24 → 1 ≤ i → X xs d k_Tp_wordOf 2 [mR 9, mL x, mC 0, mI (i : Int)] [] g = some ([mI (wof x m i)], g) := by
    intro m
    induction m with
    | zero =>
      intro i hi h1
      rw [e_Tp_wordOf_2, wof]
      refine if_n (by omega) ?_
      rfl
    | succ m ih =>
      intro i hi h1
      rw [e_Tp_wordOf_2, wof, hw _ (by omega) (by omega), show ((i : Int)).toNat = i by omega]
      refine if_y (by omega) ?_
      refine if_y (by omega) ?_
      by_cases z : (nth WL i).getD 0 = x
      · rw [if_pos z, if_pos z]
      · rw [if_neg z, if_neg z]
        refine if_y (by omega) ?_
        exact ih (i + 1) (by omega) (by omega)
  exact key 23 1 (by omega) (by omega)
theorem pk_bd : ∀ (w : List Nat), (∀ l ∈ w, 1 ≤ l ∧ l ≤ 26) → ∀ a : Int, 0 ≤ a → a * 32 ^ w.length ≤ pk 32 0 w a ∧ pk 32 0 w a < (a + 1) * 32 ^ w.length
  | [], _, a, ha => by simp [pk]; omega
  | l :: w, h, a, ha => by
    have hl := h l (by simp)
    have ih := pk_bd w (fun x hx => h x (by simp [hx])) (a * 32 + ((l : Int) + 0)) (by omega)
    have pp : (0 : Int) ≤ 32 ^ w.length := Int.pow_nonneg (by omega)
    rw [List.length_cons, Int.pow_succ, pk]
    have e1 : a * (32 ^ w.length * 32) ≤ (a * 32 + ((l : Int) + 0)) * 32 ^ w.length := by
      have : a * (32 ^ w.length * 32) = (a * 32) * 32 ^ w.length := by rw [Int.mul_comm (32 ^ w.length) 32, Int.mul_assoc]
      rw [this]
      exact Int.mul_le_mul_of_nonneg_right (by omega) pp
    have e2 : (a * 32 + ((l : Int) + 0) + 1) * 32 ^ w.length ≤ (a + 1) * (32 ^ w.length * 32) := by
      have : (a + 1) * (32 ^ w.length * 32) = ((a + 1) * 32) * 32 ^ w.length := by rw [Int.mul_comm (32 ^ w.length) 32, Int.mul_assoc]
      rw [this]
      exact Int.mul_le_mul_of_nonneg_right (by omega) pp
    omega
theorem pk_small {w : List Nat} (h : ∀ l ∈ w, 1 ≤ l ∧ l ≤ 26) (hl : w.length ≤ 8) : 0 ≤ pk 32 0 w 0 ∧ pk 32 0 w 0 < 1099511627776 := by
  have a := pk_bd w h 0 (by omega)
  have b : (32 : Int) ^ w.length ≤ 32 ^ 8 := by
    have : (32 : Nat) ^ w.length ≤ 32 ^ 8 := Nat.pow_le_pow_right (by omega) hl
    exact_mod_cast this
  have c : (32 : Int) ^ 8 = 1099511627776 := by decide
  omega
/-- letters from a place on are letters -/
theorem lt_ok {f n : Nat} (h : ∀ i, i < n → isLt (tx (f + i)) = true) : ∀ l ∈ ltN tx f n, 1 ≤ l ∧ l ≤ 26 := fun l hl => by
  obtain ⟨i, a, b⟩ := ltN_mem n l hl
  have := h i a
  unfold isLt at this
  rw [decide_eq_true_iff] at this
  omega
theorem t_blanks : ∀ (m p : Nat) (g : mM), p + m = N → TxT tx N g → N ≤ 900 → g 9 4 = (p : Int) → ∃ g', X xs d k_Tp_step 0 [mR 9] [] g = X xs d k_Tp_step 19 [mR 9] [] g' ∧ g' 9 4 = ((runN isB tx m p : Nat) : Int) ∧ TsF g g'
  | 0, p, g, hp, t, hN, g4 => by
    refine ⟨g, ?_, g4, TsF.rf⟩
    rw [e_Tp_step_0, g4, t.1, if_neg (by omega)]
  | m + 1, p, g, hp, t, hN, g4 => by
    rw [runN]
    by_cases z : isB (tx p) = true
    · obtain ⟨g', r1, r2, r3⟩ := t_blanks m (p + 1) (upM g 9 4 ((p : Int) + 1)) (by omega) (t.f (TsF.rf.up (by omega))) hN (by rw [up_eq]; omega)
      rw [if_pos z]
      refine ⟨g', ?_, r2, (TsF.rf.up (by omega)).tr r3⟩
      rw [e_Tp_step_0, g4, t.1]
      refine if_y (by omega) ?_
      refine if_y (by omega) ?_
      refine cI_of (t.b (by omega)) ?_
      rw [b2i_y z]
      refine if_n (by omega) ?_
      rw [g4]
      refine if_y (by omega) ?_
      exact r1
    · rw [if_neg z]
      refine ⟨g, ?_, g4, TsF.rf⟩
      rw [e_Tp_step_0, g4, t.1]
      refine if_y (by omega) ?_
      refine if_y (by omega) ?_
      refine cI_of (t.b (by omega)) ?_
      rw [b2i_n z]
      refine if_y (by omega) ?_
      rfl
theorem t_letters {f : Nat} : ∀ (m p : Nat) (g : mM), p + m = N → f ≤ p → TxT tx N g → N ≤ 900 → (∀ i, i < p - f → isLt (tx (f + i)) = true) → g 9 4 = (p : Int) → g 9 6 = (f : Int) → (p - f ≤ 8 → g 9 10 = pk 32 0 (ltN tx f (p - f)) 0) → ∃ g', X xs d k_Tp_stepWord 6 [mR 9] [] g = X xs d k_Tp_stepWord 42 [mR 9] [] g' ∧ g' 9 4 = ((runN isLt tx m p : Nat) : Int) ∧ (runN isLt tx m p - f ≤ 8 → g' 9 10 = pk 32 0 (ltN tx f (runN isLt tx m p - f)) 0) ∧ TsF g g' ∧ ∀ j, (j = 5 ∨ j = 6 ∨ j = 8) → g' 9 j = g 9 j
  | 0, p, g, hp, hf, t, hN, al, g4, g6, g10 => by
    refine ⟨g, ?_, g4, g10, TsF.rf, fun _ _ => rfl⟩
    rw [e_Tp_stepWord_6, g4, t.1, if_neg (by omega)]
  | m + 1, p, g, hp, hf, t, hN, al, g4, g6, g10 => by
    rw [runN]
    by_cases z : isLt (tx p) = true
    · have tp : 97 ≤ tx p ∧ tx p ≤ 122 := by unfold isLt at z; rwa [decide_eq_true_iff] at z
      have tv := t.p (i := p) (by omega) (by omega)
      have al2 : ∀ i, i < p + 1 - f → isLt (tx (f + i)) = true := fun i hi => by
        by_cases e : i = p - f
        · rw [e, show f + (p - f) = p by omega]; exact z
        · exact al i (by omega)
      rw [if_pos z]
      by_cases y : p - f < 8
      · have pb := pk_small (lt_ok al) (by rw [ltN_len]; omega)
        have e10 := g10 (by omega)
        have sn : pk 32 0 (ltN tx f (p + 1 - f)) 0 = pk 32 0 (ltN tx f (p - f)) 0 * 32 + (tx p - 97 + 1) := by
          rw [show p + 1 - f = (p - f) + 1 by omega, ltN, pk_snoc, show f + (p - f) = p by omega]
          omega
        generalize hg : upM (upM g 9 10 (pk 32 0 (ltN tx f (p - f)) 0 * 32 + (tx p - 97 + 1))) 9 4 ((p : Int) + 1) = k
        have kf : TsF g k := by rw [← hg]; exact (TsF.rf.up (by omega)).up (by omega)
        obtain ⟨g', r1, r2, r3, r4, r5⟩ := t_letters m (p + 1) k (by omega) (by omega) (t.f kf) hN al2 (by rw [← hg, up_eq]; omega) (by rw [← hg, up_at, if_neg (by omega), up_at, if_neg (by omega)]; exact g6) (fun _ => by rw [← hg, up_at, if_neg (by omega), up_eq, sn])
        refine ⟨g', ?_, r2, r3, kf.tr r4, fun j hj => by rw [r5 j hj, ← hg, up_at, if_neg (by omega), up_at, if_neg (by omega)]⟩
        rw [e_Tp_stepWord_6, g4, t.1]
        refine if_y (by omega) ?_
        refine if_y (by omega) ?_
        refine cI_of (t.l (by omega) g) ?_
        rw [b2i_y z]
        refine if_n (by omega) ?_
        rw [g4, g6, e10, tv]
        refine if_y (by omega) ?_
        refine if_y (by omega) ?_
        refine if_y (by omega) ?_
        refine cL_of (v := pk 32 0 (ltN tx f (p - f)) 0 * 32 + (tx p - 97 + 1)) (h := g) ?_ ?_
        · rw [c_Tp_withLetter]
          refine if_y (by omega) ?_
          refine if_y (by omega) ?_
          refine if_y (by omega) ?_
          refine if_y (by omega) ?_
          rfl
        have e4 : upM g 9 10 (pk 32 0 (ltN tx f (p - f)) 0 * 32 + (tx p - 97 + 1)) 9 4 = (p : Int) := by rw [up_at, if_neg (by omega)]; exact g4
        rw [e_Tp_stepWord_35, e4]
        refine if_y (by omega) ?_
        rw [hg]
        exact r1
      · generalize hg : upM g 9 4 ((p : Int) + 1) = k
        have kf : TsF g k := by rw [← hg]; exact TsF.rf.up (by omega)
        obtain ⟨g', r1, r2, r3, r4, r5⟩ := t_letters m (p + 1) k (by omega) (by omega) (t.f kf) hN al2 (by rw [← hg, up_eq]; omega) (by rw [← hg, up_at, if_neg (by omega)]; exact g6) (fun _ => by omega)
        refine ⟨g', ?_, r2, r3, kf.tr r4, fun j hj => by rw [r5 j hj, ← hg, up_at, if_neg (by omega)]⟩
        rw [e_Tp_stepWord_6, g4, t.1]
        refine if_y (by omega) ?_
        refine if_y (by omega) ?_
        refine cI_of (t.l (by omega) g) ?_
        rw [b2i_y z]
        refine if_n (by omega) ?_
        rw [g4, g6]
        refine if_y (by omega) ?_
        refine if_n (by omega) ?_
        rw [e_Tp_stepWord_35, g4]
        refine if_y (by omega) ?_
        rw [hg]
        exact r1
    · rw [if_neg z]
      refine ⟨g, ?_, g4, g10, TsF.rf, fun _ _ => rfl⟩
      rw [e_Tp_stepWord_6, g4, t.1]
      refine if_y (by omega) ?_
      refine if_y (by omega) ?_
      refine cI_of (t.l (by omega) g) ?_
      rw [b2i_n z]
      refine if_y (by omega) ?_
      rfl
theorem nvN_bd {f : Nat} : ∀ n, (∀ i, i < n → isDg (tx (f + i)) = true) → 0 ≤ nvN tx f n ∧ nvN tx f n < 10 ^ n
  | 0, _ => by simp [nvN]
  | n + 1, h => by
    have ih := nvN_bd n (fun i hi => h i (by omega))
    have := h n (by omega)
    unfold isDg at this
    rw [decide_eq_true_iff] at this
    rw [nvN, Int.pow_succ]
    omega
theorem nv4 {f n : Nat} (h : ∀ i, i < n → isDg (tx (f + i)) = true) (hn : n ≤ 4) : 0 ≤ nvN tx f n ∧ nvN tx f n ≤ 9999 := by
  have a := nvN_bd n h
  have : n = 0 ∨ n = 1 ∨ n = 2 ∨ n = 3 ∨ n = 4 := by omega
  rcases this with rfl | rfl | rfl | rfl | rfl <;> omega
theorem t_digits {f : Nat} : ∀ (m p : Nat) (g : mM), p + m = N → f ≤ p → TxT tx N g → N ≤ 900 → (∀ i, i < p - f → isDg (tx (f + i)) = true) → g 9 4 = (p : Int) → g 9 6 = (f : Int) → g 9 8 = 0 → g 9 9 = -1 → (p - f ≤ 4 → g 9 7 = nvN tx f (p - f)) → ∃ g', X xs d k_Tp_stepNumber 3 [mR 9] [] g = some ([], g') ∧ TokT (nbT tx f (runN isDg tx m p)) f (runN isDg tx m p) g' ∧ TsF g g'
  | m, p, g, hp, hf, t, hN, al, g4, g6, g8, g9, g7 => by
    have stop : runN isDg tx m p = p → ∃ g', (if inI ((g 9 4) - (g 9 6)) then (if (4 : Int) < ((g 9 4) - (g 9 6)) then some ([], (upM g 9 5 4)) else some ([], (upM g 9 5 2))) else none) = some (([] : List mv), g') ∧ TokT (nbT tx f (runN isDg tx m p)) f (runN isDg tx m p) g' ∧ TsF g g' := by
      intro e
      rw [e, g4, g6]
      unfold nbT
      by_cases y : 4 < p - f
      · refine ⟨upM g 9 5 4, ?_, ?_, TsF.rf.up (by omega)⟩
        · rw [if_pos (by omega), if_pos (by omega)]
        · rw [if_pos y]
          refine ⟨by rw [up_at, if_neg (by omega)]; exact g6, fun z => absurd rfl z, up_eq, by rw [up_at, if_neg (by omega)]; exact g8, by rw [up_at, if_neg (by omega)]; exact g9, fun z => absurd z (by dsimp only; decide), fun z => absurd z (by dsimp only; decide)⟩
      · refine ⟨upM g 9 5 2, ?_, ?_, TsF.rf.up (by omega)⟩
        · rw [if_pos (by omega), if_neg (by omega)]
        · rw [if_neg y]
          refine ⟨by rw [up_at, if_neg (by omega)]; exact g6, fun _ => by rw [up_at, if_neg (by omega)]; exact g4, up_eq, by rw [up_at, if_neg (by omega)]; exact g8, by rw [up_at, if_neg (by omega)]; exact g9, fun _ => ?_, fun z => absurd z (by dsimp only; decide)⟩
          rw [up_at, if_neg (by omega)]
          exact g7 (by omega)
    match m with
    | 0 =>
      obtain ⟨g', r1, r2⟩ := stop rfl
      refine ⟨g', ?_, r2⟩
      rw [e_Tp_stepNumber_3, t.1, if_neg (by omega)]
      exact r1
    | m + 1 =>
      by_cases z : isDg (tx p) = true
      · have tp : 48 ≤ tx p ∧ tx p ≤ 57 := by unfold isDg at z; rwa [decide_eq_true_iff] at z
        have tv := t.p (i := p) (by omega) (by omega)
        have al2 : ∀ i, i < p + 1 - f → isDg (tx (f + i)) = true := fun i hi => by
          by_cases e : i = p - f
          · rw [e, show f + (p - f) = p by omega]; exact z
          · exact al i (by omega)
        have rE : runN isDg tx (m + 1) p = runN isDg tx m (p + 1) := by rw [runN, if_pos z]
        rw [rE]
        by_cases y : p - f < 4
        · have e7 := g7 (by omega)
          have nb := nv4 al (by omega)
          have sn : nvN tx f (p + 1 - f) = nvN tx f (p - f) * 10 + (tx p - 48) := by
            rw [show p + 1 - f = (p - f) + 1 by omega, nvN, show f + (p - f) = p by omega]
          generalize hg : upM (upM g 9 7 (nvN tx f (p - f) * 10 + (tx p - 48))) 9 4 ((p : Int) + 1) = k
          have kf : TsF g k := by rw [← hg]; exact (TsF.rf.up (by omega)).up (by omega)
          have ke : ∀ j, j ≠ 4 → j ≠ 7 → k 9 j = g 9 j := fun j h1 h2 => by rw [← hg, up_at, if_neg h1, up_at, if_neg h2]
          obtain ⟨g', r1, r2, r3⟩ := t_digits (f := f) m (p + 1) k (by omega) (by omega) (t.f kf) hN al2 (by rw [← hg, up_eq]; omega) (by rw [ke 6 (by omega) (by omega)]; exact g6) (by rw [ke 8 (by omega) (by omega)]; exact g8) (by rw [ke 9 (by omega) (by omega)]; exact g9) (fun _ => by rw [← hg, up_at, if_neg (by omega), up_eq, sn])
          refine ⟨g', ?_, r2, kf.tr r3⟩
          rw [e_Tp_stepNumber_3, g4, t.1]
          refine if_y (by omega) ?_
          refine if_y (by omega) ?_
          refine cI_of (t.dg (by omega) g) ?_
          rw [b2i_y z]
          refine if_n (by omega) ?_
          rw [g4, g6, e7, tv]
          refine if_y (by omega) ?_
          refine if_y (by omega) ?_
          refine if_y (by omega) ?_
          refine if_y (by omega) ?_
          refine if_y (by omega) ?_
          refine if_y (by omega) ?_
          have e4 : upM g 9 7 (nvN tx f (p - f) * 10 + (tx p - 48)) 9 4 = (p : Int) := by rw [up_at, if_neg (by omega)]; exact g4
          rw [e_Tp_stepNumber_36, e4]
          refine if_y (by omega) ?_
          rw [hg]
          exact r1
        · generalize hg : upM g 9 4 ((p : Int) + 1) = k
          have kf : TsF g k := by rw [← hg]; exact TsF.rf.up (by omega)
          have ke : ∀ j, j ≠ 4 → k 9 j = g 9 j := fun j h1 => by rw [← hg, up_at, if_neg h1]
          obtain ⟨g', r1, r2, r3⟩ := t_digits (f := f) m (p + 1) k (by omega) (by omega) (t.f kf) hN al2 (by rw [← hg, up_eq]; omega) (by rw [ke 6 (by omega)]; exact g6) (by rw [ke 8 (by omega)]; exact g8) (by rw [ke 9 (by omega)]; exact g9) (fun _ => by omega)
          refine ⟨g', ?_, r2, kf.tr r3⟩
          rw [e_Tp_stepNumber_3, g4, t.1]
          refine if_y (by omega) ?_
          refine if_y (by omega) ?_
          refine cI_of (t.dg (by omega) g) ?_
          rw [b2i_y z]
          refine if_n (by omega) ?_
          rw [g4, g6]
          refine if_y (by omega) ?_
          refine if_n (by omega) ?_
          rw [e_Tp_stepNumber_36, g4]
          refine if_y (by omega) ?_
          rw [hg]
          exact r1
      · obtain ⟨g', r1, r2⟩ := stop (by rw [runN, if_neg z])
        refine ⟨g', ?_, r2⟩
        rw [e_Tp_stepNumber_3, g4, t.1]
        refine if_y (by omega) ?_
        refine if_y (by omega) ?_
        refine cI_of (t.dg (by omega) g) ?_
        rw [b2i_n z]
        refine if_y (by omega) ?_
        exact r1
theorem t_step (hw : ∀ i, 1 ≤ i → i ≤ 23 → g 11 i = (nth WL i.toNat).getD 0) {p : Nat} (t : TxT tx N g) (hN : N ≤ 900) (hp : p ≤ N) (g4 : g 9 4 = (p : Int)) : ∃ g', C xs d 310 0 [mR 9] g = some ([], g') ∧ TokT (tkF tx N (frP tx N p)).1 (frP tx N p) (tkF tx N (frP tx N p)).2 g' ∧ TsF g g' := by
  have e0 : C xs d 310 0 [mR 9] g = X xs d k_Tp_step 0 [mR 9] [] g := by rw [c_Tp_step, ← e_Tp_step_0]
  obtain ⟨k, r1, r2, r3⟩ := t_blanks (xs := xs) (d := d) (N - p) p g (by omega) t hN g4
  rw [e0, r1]
  have fl := runN_le (P := isB) (tx := tx) (N - p) p
  generalize hf : runN isB tx (N - p) p = f at r2 fl
  have hfr : frP tx N p = f := hf
  rw [hfr]
  have tk := t.f r3
  have hwk : ∀ i, 1 ≤ i → i ≤ 23 → k 11 i = (nth WL i.toNat).getD 0 := fun i h1 h2 => by rw [r3.1 11 (by omega)]; exact hw i h1 h2
  generalize hl : upM (upM (upM k 9 6 (f : Int)) 9 9 (-1)) 9 8 0 = l
  have lf : TsF g l := by rw [← hl]; exact r3.tr (((TsF.rf.up (by omega)).up (by omega)).up (by omega))
  have le : ∀ j, j ≠ 6 → j ≠ 9 → j ≠ 8 → l 9 j = k 9 j := fun j h1 h2 h3 => by rw [← hl, up_at, if_neg h3, up_at, if_neg h2, up_at, if_neg h1]
  have l4 : l 9 4 = (f : Int) := by rw [le 4 (by omega) (by omega) (by omega)]; exact r2
  have l6 : l 9 6 = (f : Int) := by rw [← hl, up_at, if_neg (by omega), up_at, if_neg (by omega), up_eq]
  have l8 : l 9 8 = 0 := by rw [← hl, up_eq]
  have l9 : l 9 9 = -1 := by rw [← hl, up_at, if_neg (by omega), up_eq]
  have tl : TxT tx N l := t.f lf
  have lr : ∀ a, a ≠ 9 → l a = k a := fun a z => by rw [← hl, up_row z, up_row z, up_row z]
  rw [e_Tp_step_19, r2, hl]
  rw [show k 9 3 = (N : Int) from tk.1]
  unfold tkF
  by_cases hz : N ≤ f
  · rw [if_pos hz]
    refine ⟨upM l 9 5 0, by rw [if_neg (by omega)], ⟨by rw [up_at, if_neg (by omega)]; exact l6, fun _ => by rw [up_at, if_neg (by omega)]; exact l4, up_eq, by rw [up_at, if_neg (by omega)]; exact l8, by rw [up_at, if_neg (by omega)]; exact l9, fun z => absurd z (by dsimp only; decide), fun z => absurd z (by dsimp only; decide)⟩, lf.up (by omega)⟩
  rw [if_neg hz, if_pos (by omega), if_pos (by omega)]
  have k10 : k 10 (f : Int) = l 10 (f : Int) := by rw [lr 10 (by omega)]
  rw [k10]
  by_cases z1 : isLt (tx f) = true
  · rw [if_pos z1]
    obtain ⟨g', q1, q2, q3, q4, q5⟩ := t_letters (xs := xs) (d := d) (f := f) (N - f) f (upM (upM l 9 5 1) 9 10 0) (by omega) (Nat.le_refl _) (tl.f ((TsF.rf.up (by omega)).up (by omega))) hN (fun i hi => by omega) (by rw [up_at, if_neg (by omega), up_at, if_neg (by omega)]; exact l4) (by rw [up_at, if_neg (by omega), up_at, if_neg (by omega)]; exact l6) (fun _ => by rw [up_eq, Nat.sub_self]; rfl)
    have el := runN_le (P := isLt) (tx := tx) (N - f) f
    generalize runN isLt tx (N - f) f = e at q2 q3 el ⊢
    have f5 : g' 9 5 = 1 := by rw [q5 5 (by omega), up_at, if_neg (by omega), up_eq]
    have f6 : g' 9 6 = (f : Int) := by rw [q5 6 (by omega), up_at, if_neg (by omega), up_at, if_neg (by omega)]; exact l6
    have f8 : g' 9 8 = 0 := by rw [q5 8 (by omega), up_at, if_neg (by omega), up_at, if_neg (by omega)]; exact l8
    have gf : TsF g g' := lf.tr (((TsF.rf.up (by omega)).up (by omega)).tr q4)
    refine ⟨upM g' 9 9 (tIx (ltN tx f (e - f))), ?_, ⟨by rw [up_at, if_neg (by omega)]; exact f6, fun _ => by rw [up_at, if_neg (by omega)]; exact q2, by rw [up_at, if_neg (by omega)]; exact f5, by rw [up_at, if_neg (by omega)]; exact f8, by rw [up_eq]; rfl, fun z => absurd z (by dsimp only; decide), fun _ hl => ?_⟩, gf.up (by omega)⟩
    · refine cI_of (tl.l (by omega) l) ?_
      rw [b2i_y z1]
      refine if_n (by omega) ?_
      refine cV_of (h := upM g' 9 9 (tIx (ltN tx f (e - f)))) ?_ rfl
      rw [c_Tp_stepWord, q1, e_Tp_stepWord_42, q2, f6]
      refine if_y (by omega) ?_
      unfold tIx
      rw [ltN_len]
      by_cases y : 8 < e - f
      · rw [if_pos (by omega), if_pos y]
      · rw [if_neg (by omega), if_neg y, q3 (by omega)]
        refine cI_of (t_wordOf (fun i h1 h2 => by rw [gf.1 11 (by omega)]; exact hw i h1 h2) _) ?_
        rfl
    · rw [ltN_len] at hl
      rw [up_at, if_neg (by omega)]
      exact q3 hl
  rw [if_neg z1]
  by_cases z2 : isDg (tx f) = true
  · rw [if_pos z2]
    obtain ⟨g', q1, q2, q3⟩ := t_digits (xs := xs) (d := d) (f := f) (N - f) f (upM l 9 7 0) (by omega) (Nat.le_refl _) (tl.f (TsF.rf.up (by omega))) hN (fun i hi => by omega) (by rw [up_at, if_neg (by omega)]; exact l4) (by rw [up_at, if_neg (by omega)]; exact l6) (by rw [up_at, if_neg (by omega)]; exact l8) (by rw [up_at, if_neg (by omega)]; exact l9) (fun _ => by rw [up_eq, Nat.sub_self]; rfl)
    refine ⟨g', ?_, q2, lf.tr ((TsF.rf.up (by omega)).tr q3)⟩
    refine cI_of (tl.l (by omega) l) ?_
    rw [b2i_n z1]
    refine if_y (by omega) ?_
    rw [l4]
    refine if_y (by omega) ?_
    refine cI_of (tl.dg (by omega) l) ?_
    rw [b2i_y z2]
    refine if_n (by omega) ?_
    refine cV_of (h := g') ?_ rfl
    rw [c_Tp_stepNumber]
    exact q1
  rw [if_neg z2]
  by_cases z3 : isSg (tx f) = true
  · have ts : tx f < 128 := by unfold isSg at z3; rw [decide_eq_true_iff] at z3; omega
    rw [if_pos z3]
    refine ⟨upM (upM (upM l 9 5 3) 9 8 (tx f)) 9 4 ((f : Int) + 1), ?_, ⟨by rw [up_at, if_neg (by omega), up_at, if_neg (by omega), up_at, if_neg (by omega)]; exact l6, fun _ => by rw [up_eq]; rfl, by rw [up_at, if_neg (by omega), up_at, if_neg (by omega), up_eq], by rw [up_at, if_neg (by omega), up_eq]; rfl, by rw [up_at, if_neg (by omega), up_at, if_neg (by omega), up_at, if_neg (by omega)]; exact l9, fun z => absurd z (by dsimp only; decide), fun z => absurd z (by dsimp only; decide)⟩, ((lf.up (by omega)).up (by omega)).up (by omega)⟩
    refine cI_of (tl.l (by omega) l) ?_
    rw [b2i_n z1]
    refine if_y (by omega) ?_
    rw [l4]
    refine if_y (by omega) ?_
    refine cI_of (tl.dg (by omega) l) ?_
    rw [b2i_n z2]
    refine if_y (by omega) ?_
    rw [l4]
    refine if_y (by omega) ?_
    refine cI_of (tl.s (by omega) l) ?_
    rw [b2i_y z3]
    refine if_n (by omega) ?_
    rw [l4, tl.p (by omega) ts]
    refine if_y (by omega) ?_
    refine if_y (by omega) ?_
    rfl
  · rw [if_neg z3]
    refine ⟨upM l 9 5 4, ?_, ⟨by rw [up_at, if_neg (by omega)]; exact l6, fun z => absurd rfl z, up_eq, by rw [up_at, if_neg (by omega)]; exact l8, by rw [up_at, if_neg (by omega)]; exact l9, fun z => absurd z (by dsimp only; decide), fun z => absurd z (by dsimp only; decide)⟩, lf.up (by omega)⟩
    refine cI_of (tl.l (by omega) l) ?_
    rw [b2i_n z1]
    refine if_y (by omega) ?_
    rw [l4]
    refine if_y (by omega) ?_
    refine cI_of (tl.dg (by omega) l) ?_
    rw [b2i_n z2]
    refine if_y (by omega) ?_
    rw [l4]
    refine if_y (by omega) ?_
    refine cI_of (tl.s (by omega) l) ?_
    rw [b2i_n z3]
    refine if_y (by omega) ?_
    rfl
end
