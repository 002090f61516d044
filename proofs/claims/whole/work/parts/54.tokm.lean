/-! EQUIV 24: the tokens of the reference -/
def bt (tx : Nat → Int) (N p : Nat) : Int := if p < N then tx p else -1
def TxM (tx : Nat → Int) (N : Nat) (g : mM) : Prop := g 130 11 = (N : Int) ∧ ∀ i : Nat, i < N → fAnd (g 137 (i : Int)) 255 = tx i ∧ 0 ≤ tx i ∧ tx i ≤ 255
def TokM (k : Tk) (f e : Nat) (g : mM) : Prop := g 130 13 = (f : Int) ∧ (k.1 ≠ 4 → g 130 14 = (e : Int)) ∧ g 130 12 = kdM k ∧ (k.1 = 2 ∨ k.1 = 3 → g 130 15 = k.2.1)
def TmF (g g' : mM) : Prop := (∀ a, a ≠ 130 → g' a = g a) ∧ ∀ j, (j ≠ 12 ∧ j ≠ 13 ∧ j ≠ 14 ∧ j ≠ 15) → g' 130 j = g 130 j
theorem TmF.rf {g : mM} : TmF g g := ⟨fun _ _ => rfl, fun _ _ => rfl⟩
theorem TmF.tr {g k l : mM} (a : TmF g k) (b : TmF k l) : TmF g l := ⟨fun x h => (b.1 x h).trans (a.1 x h), fun j h => (b.2 j h).trans (a.2 j h)⟩
theorem TmF.up {g k : mM} (a : TmF g k) {i v : Int} (h : i = 12 ∨ i = 13 ∨ i = 14 ∨ i = 15) : TmF g (upM k 130 i v) := ⟨fun x hx => by rw [up_row hx]; exact a.1 x hx, fun j hj => by rw [up_at, if_neg (by omega)]; exact a.2 j hj⟩
theorem TxM.f {tx : Nat → Int} {N : Nat} {g g' : mM} (t : TxM tx N g) (f : TmF g g') : TxM tx N g' := ⟨by rw [f.2 11 (by omega)]; exact t.1, fun i hi => by rw [f.1 137 (by omega)]; exact t.2 i hi⟩
/-- what a token is -/
def TkW (tx : Nat → Int) (N : Nat) (k : Tk) (f e : Nat) : Prop := (0 ≤ k.1 ∧ k.1 ≤ 4) ∧ f ≤ N ∧ (k.1 ≠ 4 → e ≤ N) ∧ (k.1 = 1 → k.2.2 = ltN tx f (e - f) ∧ f < e ∧ ∀ i, i < e - f → isLt (tx (f + i)) = true) ∧ (k.1 = 2 → 0 ≤ k.2.1 ∧ k.2.1 ≤ 9999) ∧ (k.1 = 3 → isSg k.2.1 = true) ∧ (k.1 ≠ 0 → f < e)
theorem tkF_W {tx : Nat → Int} {N f : Nat} (h : f ≤ N) : TkW tx N (tkF tx N f).1 f (tkF tx N f).2 := by
  unfold tkF
  by_cases z : N ≤ f
  · rw [if_pos z]
    exact ⟨by dsimp only; omega, h, fun _ => h, fun y => absurd y (by dsimp only; decide), fun y => absurd y (by dsimp only; decide), fun y => absurd y (by dsimp only; decide), fun y => absurd rfl y⟩
  rw [if_neg z]
  by_cases z1 : isLt (tx f) = true
  · rw [if_pos z1]
    have el := runN_le (P := isLt) (tx := tx) (N - f) f
    have ea := fun i => runN_all (P := isLt) (tx := tx) (N - f) f i
    have st : f + 1 ≤ runN isLt tx (N - f) f := by
      have : N - f = (N - f - 1) + 1 := by omega
      rw [this, runN, if_pos z1]
      exact (runN_le (N - f - 1) (f + 1)).1
    refine ⟨by dsimp only; omega, h, fun _ => by dsimp only; omega, fun _ => ⟨rfl, st, fun i hi => ea (f + i) (by omega) (by dsimp only at hi; omega)⟩, fun y => absurd y (by dsimp only; decide), fun y => absurd y (by dsimp only; decide), fun _ => st⟩
  rw [if_neg z1]
  by_cases z2 : isDg (tx f) = true
  · rw [if_pos z2]
    have el := runN_le (P := isDg) (tx := tx) (N - f) f
    have ea := fun i => runN_all (P := isDg) (tx := tx) (N - f) f i
    have st : f + 1 ≤ runN isDg tx (N - f) f := by
      have : N - f = (N - f - 1) + 1 := by omega
      rw [this, runN, if_pos z2]
      exact (runN_le (N - f - 1) (f + 1)).1
    generalize runN isDg tx (N - f) f = e at el ea st
    unfold nbT
    by_cases y : 4 < e - f
    · rw [if_pos y]
      exact ⟨by dsimp only; omega, h, fun u => absurd rfl u, fun y => absurd y (by dsimp only; decide), fun y => absurd y (by dsimp only; decide), fun y => absurd y (by dsimp only; decide), fun _ => st⟩
    · rw [if_neg y]
      refine ⟨by dsimp only; omega, h, fun _ => by dsimp only; omega, fun y => absurd y (by dsimp only; decide), fun _ => nv4 (fun i hi => ea (f + i) (by omega) (by omega)) (by omega), fun y => absurd y (by dsimp only; decide), fun _ => st⟩
  rw [if_neg z2]
  by_cases z3 : isSg (tx f) = true
  · rw [if_pos z3]
    exact ⟨by dsimp only; omega, h, fun _ => by dsimp only; omega, fun y => absurd y (by dsimp only; decide), fun y => absurd y (by dsimp only; decide), fun _ => z3, fun _ => Nat.lt_succ_self f⟩
  · rw [if_neg z3]
    exact ⟨by dsimp only; omega, h, fun u => absurd rfl u, fun y => absurd y (by dsimp only; decide), fun y => absurd y (by dsimp only; decide), fun y => absurd y (by dsimp only; decide), fun _ => Nat.lt_succ_self f⟩
theorem kdM_w {k : Tk} : kdM k = 2 ↔ k.1 = 1 := by
  unfold kdM
  by_cases a : k.1 = 1
  · rw [if_pos a]; simp [a]
  rw [if_neg a]
  by_cases b : k.1 = 2
  · rw [if_pos b]; simp [b]
  rw [if_neg b]
  by_cases c : k.1 = 3
  · rw [if_pos c]; simp [c]
  rw [if_neg c]
  by_cases d : k.1 = 4
  · rw [if_pos d]; simp [d]
  · rw [if_neg d]; simp [a]
theorem kdM_n {k : Tk} : kdM k = 3 ↔ k.1 = 2 := by
  unfold kdM
  by_cases a : k.1 = 1
  · rw [if_pos a]; simp [a]
  rw [if_neg a]
  by_cases b : k.1 = 2
  · rw [if_pos b]; simp [b]
  rw [if_neg b]
  by_cases c : k.1 = 3
  · rw [if_pos c]; simp [c]
  rw [if_neg c]
  by_cases d : k.1 = 4
  · rw [if_pos d]; simp [d]
  · rw [if_neg d]; simp [b]
theorem kdM_s {k : Tk} : kdM k = 4 ↔ k.1 = 3 := by
  unfold kdM
  by_cases a : k.1 = 1
  · rw [if_pos a]; simp [a]
  rw [if_neg a]
  by_cases b : k.1 = 2
  · rw [if_pos b]; simp [b]
  rw [if_neg b]
  by_cases c : k.1 = 3
  · rw [if_pos c]; simp [c]
  rw [if_neg c]
  by_cases d : k.1 = 4
  · rw [if_pos d]; simp [d]
  · rw [if_neg d]; simp [c]
theorem kdM_b {k : Tk} : kdM k = 1 ↔ k.1 = 4 := by
  unfold kdM
  by_cases a : k.1 = 1
  · rw [if_pos a]; simp [a]
  rw [if_neg a]
  by_cases b : k.1 = 2
  · rw [if_pos b]; simp [b]
  rw [if_neg b]
  by_cases c : k.1 = 3
  · rw [if_pos c]; simp [c]
  rw [if_neg c]
  by_cases d : k.1 = 4
  · rw [if_pos d]; simp [d]
  · rw [if_neg d]; simp [d]
section
variable {xs : List Int} {d : Nat} {tx : Nat → Int} {N : Nat} {g : mM}
theorem m_byteAt (t : TxM tx N g) (hN : N ≤ 900) {p : Nat} : C xs d 95 0 [mR 130, mI (p : Int)] g = some ([mI (bt tx N p)], g) := by
  rw [c_M_byteAt, t.1]
  unfold bt
  by_cases z : p < N
  · rw [if_pos z]
    refine if_y (by omega) ?_
    refine if_y (by omega) ?_
    rw [(t.2 p z).1]
  · rw [if_neg z]
    refine if_n (by omega) ?_
    rfl
theorem m_isSmall {x : Int} : C xs d 96 0 [mI x] g = some ([mI (b2i (isLt x = true))], g) := by
  unfold isLt
  rw [c_M_isSmall]
  by_cases z : x < 97
  · rw [if_pos z, b2i_n (by rw [decide_eq_true_iff]; omega)]
  · rw [if_neg z]
    by_cases y : 122 < x
    · rw [if_pos y, b2i_n (by rw [decide_eq_true_iff]; omega)]
    · rw [if_neg y, b2i_y (by rw [decide_eq_true_iff]; omega)]
theorem m_isDigit {x : Int} : C xs d 97 0 [mI x] g = some ([mI (b2i (isDg x = true))], g) := by
  unfold isDg
  rw [c_M_isDigit]
  by_cases z : x < 48
  · rw [if_pos z, b2i_n (by rw [decide_eq_true_iff]; omega)]
  · rw [if_neg z]
    by_cases y : 57 < x
    · rw [if_pos y, b2i_n (by rw [decide_eq_true_iff]; omega)]
    · rw [if_neg y, b2i_y (by rw [decide_eq_true_iff]; omega)]
theorem bt_in {p : Nat} (h : p < N) : bt tx N p = tx p := if_pos h
theorem bt_out {p : Nat} (h : ¬ p < N) : bt tx N p = -1 := if_neg h
theorem m_blanks (hN : N ≤ 900) : ∀ (m p : Nat) (g : mM), p + m = N → TxM tx N g → g 130 14 = (p : Int) → ∃ g', X xs d k_M_ahead 0 [mR 130, mC 0] [] g = X xs d k_M_ahead 0 [mR 130, mC 0] [] g' ∧ g' 130 14 = ((runN isB tx m p : Nat) : Int) ∧ TmF g g'
  | 0, p, g, hp, t, g4 => ⟨g, rfl, g4, TmF.rf⟩
  | m + 1, p, g, hp, t, g4 => by
    rw [runN]
    by_cases z : isB (tx p) = true
    · obtain ⟨g', r1, r2, r3⟩ := m_blanks hN m (p + 1) (upM g 130 14 ((p : Int) + 1)) (by omega) (t.f (TmF.rf.up (by omega))) (by rw [up_eq]; omega)
      rw [if_pos z]
      refine ⟨g', ?_, r2, (TmF.rf.up (by omega)).tr r3⟩
      have go : X xs d k_M_ahead 12 [mR 130, mC 0] [] g = X xs d k_M_ahead 0 [mR 130, mC 0] [] g' := by
        rw [e_M_ahead_12, g4]
        refine if_y (by omega) ?_
        exact r1
      unfold isB at z
      rw [decide_eq_true_iff] at z
      rw [e_M_ahead_0, g4]
      refine cI_of (m_byteAt t hN) ?_
      rw [bt_in (by omega)]
      by_cases y : tx p = 32
      · rw [if_pos y]
        exact go
      · rw [if_neg y, g4]
        refine cI_of (m_byteAt t hN) ?_
        rw [bt_in (by omega)]
        refine if_y (by omega) ?_
        exact go
    · rw [if_neg z]
      exact ⟨g, rfl, g4, TmF.rf⟩
theorem m_letters {f : Nat} (hN : N ≤ 900) (x1 : Int) : ∀ (m p : Nat) (g : mM), p + m = N → TxM tx N g → g 130 14 = (p : Int) → ∃ g', X xs d k_M_ahead 41 [mR 130, mI x1] [] g = some ([], g') ∧ g' 130 14 = ((runN isLt tx m p : Nat) : Int) ∧ g' 130 12 = 2 ∧ g' 130 13 = g 130 13 ∧ TmF g g'
  | 0, p, g, hp, t, g4 => by
    refine ⟨upM g 130 12 2, ?_, by rw [up_at, if_neg (by omega)]; exact g4, up_eq, by rw [up_at, if_neg (by omega)], TmF.rf.up (by omega)⟩
    rw [e_M_ahead_41, g4]
    refine cI_of (m_byteAt t hN) ?_
    rw [bt_out (by omega)]
    refine cI_of (m_isSmall) ?_
    refine if_y (b2i_n (by decide)) ?_
    rfl
  | m + 1, p, g, hp, t, g4 => by
    rw [runN]
    by_cases z : isLt (tx p) = true
    · obtain ⟨g', r1, r2, r3, r4, r5⟩ := m_letters (f := f) hN x1 m (p + 1) (upM g 130 14 ((p : Int) + 1)) (by omega) (t.f (TmF.rf.up (by omega))) (by rw [up_eq]; omega)
      rw [if_pos z]
      refine ⟨g', ?_, r2, r3, by rw [r4, up_at, if_neg (by omega)], (TmF.rf.up (by omega)).tr r5⟩
      rw [e_M_ahead_41, g4]
      refine cI_of (m_byteAt t hN) ?_
      rw [bt_in (by omega)]
      refine cI_of (m_isSmall) ?_
      refine if_n ((by rw [b2i_y z]; decide)) ?_
      rw [g4]
      refine if_y (by omega) ?_
      exact r1
    · rw [if_neg z]
      refine ⟨upM g 130 12 2, ?_, by rw [up_at, if_neg (by omega)]; exact g4, up_eq, by rw [up_at, if_neg (by omega)], TmF.rf.up (by omega)⟩
      rw [e_M_ahead_41, g4]
      refine cI_of (m_byteAt t hN) ?_
      rw [bt_in (by omega)]
      refine cI_of (m_isSmall) ?_
      refine if_y (b2i_n z) ?_
      rfl
theorem m_digits {f : Nat} (hN : N ≤ 900) (x1 : Int) : ∀ (m p : Nat) (g : mM), p + m = N → f ≤ p → TxM tx N g → g 130 14 = (p : Int) → g 130 13 = (f : Int) → (0 ≤ g 130 15 ∧ g 130 15 ≤ 100000) → (∀ i, i < p - f → isDg (tx (f + i)) = true) → (p - f ≤ 4 → g 130 15 = nvN tx f (p - f)) → ∃ g', X xs d k_M_ahead 64 [mR 130, mI x1] [] g = some ([], g') ∧ TokM (nbT tx f (runN isDg tx m p)) f (runN isDg tx m p) g' ∧ TmF g g'
  | m, p, g, hp, hf, t, g4, g3, gb, al, g5 => by
    have stop : runN isDg tx m p = p → ∃ g', (if inI ((g 130 14) - (g 130 13)) then (if (4 : Int) < ((g 130 14) - (g 130 13)) then some ([], (upM g 130 12 1)) else some ([], (upM g 130 12 3))) else none) = some (([] : List mv), g') ∧ TokM (nbT tx f (runN isDg tx m p)) f (runN isDg tx m p) g' ∧ TmF g g' := by
      intro e
      rw [e, g4, g3]
      unfold nbT
      by_cases y : 4 < p - f
      · refine ⟨upM g 130 12 1, ?_, ?_, TmF.rf.up (by omega)⟩
        · rw [if_pos (by omega), if_pos (by omega)]
        · rw [if_pos y]
          exact ⟨by rw [up_at, if_neg (by omega)]; exact g3, fun z => absurd rfl z, by rw [up_eq]; rfl, fun z => absurd z (by dsimp only; decide)⟩
      · refine ⟨upM g 130 12 3, ?_, ?_, TmF.rf.up (by omega)⟩
        · rw [if_pos (by omega), if_neg (by omega)]
        · rw [if_neg y]
          exact ⟨by rw [up_at, if_neg (by omega)]; exact g3, fun _ => by rw [up_at, if_neg (by omega)]; exact g4, by rw [up_eq]; rfl, fun _ => by rw [up_at, if_neg (by omega)]; exact g5 (by omega)⟩
    match m with
    | 0 =>
      obtain ⟨g', r1, r2⟩ := stop rfl
      refine ⟨g', ?_, r2⟩
      rw [e_M_ahead_64]
      conv => lhs; rw [g4]
      refine cI_of (m_byteAt t hN) ?_
      rw [bt_out (by omega)]
      refine cI_of (m_isDigit) ?_
      refine if_y (b2i_n (by decide)) ?_
      exact r1
    | m + 1 =>
      by_cases z : isDg (tx p) = true
      · have tp : 48 ≤ tx p ∧ tx p ≤ 57 := by unfold isDg at z; rwa [decide_eq_true_iff] at z
        have al2 : ∀ i, i < p + 1 - f → isDg (tx (f + i)) = true := fun i hi => by
          by_cases e : i = p - f
          · rw [e, show f + (p - f) = p by omega]; exact z
          · exact al i (by omega)
        have rE : runN isDg tx (m + 1) p = runN isDg tx m (p + 1) := by rw [runN, if_pos z]
        rw [rE]
        generalize hv : g 130 15 = v at gb g5
        generalize hg : upM (upM g 130 15 (min 100000 (10 * v + tx p - 48))) 130 14 ((p : Int) + 1) = k
        have kf : TmF g k := by rw [← hg]; exact (TmF.rf.up (by omega)).up (by omega)
        have k15 : k 130 15 = min 100000 (10 * v + tx p - 48) := by rw [← hg, up_at, if_neg (by omega), up_eq]
        obtain ⟨g', r1, r2, r3⟩ := m_digits (f := f) hN x1 m (p + 1) k (by omega) (by omega) (t.f kf) (by rw [← hg, up_eq]; omega) (by rw [← hg, up_at, if_neg (by omega), up_at, if_neg (by omega)]; exact g3) (by rw [k15]; omega) al2 (fun y => by
          have nb := nv4 (tx := tx) (f := f) (n := p - f) al (by omega)
          have nb2 := nv4 (tx := tx) (f := f) (n := p + 1 - f) al2 y
          have e5 := g5 (by omega)
          have sn : nvN tx f (p + 1 - f) = nvN tx f (p - f) * 10 + (tx p - 48) := by
            rw [show p + 1 - f = (p - f) + 1 by omega, nvN, show f + (p - f) = p by omega]
          rw [k15, e5]
          omega)
        refine ⟨g', ?_, r2, kf.tr r3⟩
        rw [e_M_ahead_64, g4]
        refine cI_of (m_byteAt t hN) ?_
        rw [bt_in (by omega)]
        refine cI_of (m_isDigit) ?_
        refine if_n ((by rw [b2i_y z]; decide)) ?_
        rw [hv]
        refine if_y (by omega) ?_
        rw [g4]
        refine cI_of (m_byteAt t hN) ?_
        rw [bt_in (by omega), g4]
        refine if_y (by omega) ?_
        refine if_y (by omega) ?_
        refine if_y (by omega) ?_
        rw [hg]
        exact r1
      · obtain ⟨g', r1, r2⟩ := stop (by rw [runN, if_neg z])
        refine ⟨g', ?_, r2⟩
        rw [e_M_ahead_64]
        conv => lhs; rw [g4]
        refine cI_of (m_byteAt t hN) ?_
        rw [bt_in (by omega)]
        refine cI_of (m_isDigit) ?_
        refine if_y (b2i_n z) ?_
        exact r1
theorem m_ahead {p : Nat} (t : TxM tx N g) (hN : N ≤ 900) (hp : p ≤ N) (g4 : g 130 14 = (p : Int)) : ∃ g', C xs d 98 0 [mR 130] g = some ([], g') ∧ TokM (tkF tx N (frP tx N p)).1 (frP tx N p) (tkF tx N (frP tx N p)).2 g' ∧ TmF g g' := by
  have e0 : C xs d 98 0 [mR 130] g = X xs d k_M_ahead 0 [mR 130, mC 0] [] g := by rw [c_M_ahead, ← e_M_ahead_0]
  obtain ⟨k, r1, r2, r3⟩ := m_blanks (xs := xs) (d := d) hN (N - p) p g (by omega) t g4
  rw [e0, r1]
  have fl := runN_le (P := isB) (tx := tx) (N - p) p
  have nb : frP tx N p < N → isB (tx (frP tx N p)) = false := by
    have : ∀ m q, runN isB tx m q < q + m → isB (tx (runN isB tx m q)) = false := fun m => by
      induction m with
      | zero => intro q h; rw [runN] at h; omega
      | succ m ih =>
        intro q h
        rw [runN] at h ⊢
        by_cases z : isB (tx q) = true
        · rw [if_pos z] at h ⊢
          exact ih (q + 1) (by omega)
        · rw [if_neg z]
          rwa [Bool.not_eq_true] at z
    intro h
    exact this (N - p) p (by unfold frP at h; omega)
  generalize hf : runN isB tx (N - p) p = f at r2 fl
  have hfr : frP tx N p = f := hf
  rw [hfr] at nb ⊢
  have tk := t.f r3
  have no : bt tx N f ≠ 32 ∧ bt tx N f ≠ 10 := by
    by_cases z : f < N
    · have := nb z
      rw [bt_in z]
      unfold isB at this
      rw [decide_eq_false_iff_not] at this
      omega
    · rw [bt_out z]; omega
  generalize hl : upM (upM k 130 13 (f : Int)) 130 15 (bt tx N f) = l
  have lf : TmF g l := by rw [← hl]; exact r3.tr ((TmF.rf.up (by omega)).up (by omega))
  have l3 : l 130 13 = (f : Int) := by rw [← hl, up_at, if_neg (by omega), up_eq]
  have l4 : l 130 14 = (f : Int) := by rw [← hl, up_at, if_neg (by omega), up_at, if_neg (by omega)]; exact r2
  have l5 : l 130 15 = bt tx N f := by rw [← hl, up_eq]
  have tl : TxM tx N l := t.f lf
  have pre : ∀ r : Option (List mv × mM), (if bt tx N f = (-1 : Int) then some ([], (upM l 130 12 0)) else cI (C xs d 96 0 [mI (bt tx N f)] l) (fun v4 h4 => (if v4 = (0 : Int) then cI (C xs d 97 0 [mI (bt tx N f)] h4) (fun v5 h5 => (if v5 = (0 : Int) then (if inI ((h5 130 14) + 1) then (if bt tx N f = (59 : Int) then some ([], (upM (upM h5 130 14 ((h5 130 14) + 1)) 130 12 4)) else (if bt tx N f = (60 : Int) then some ([], (upM (upM h5 130 14 ((h5 130 14) + 1)) 130 12 4)) else (if bt tx N f = (62 : Int) then some ([], (upM (upM h5 130 14 ((h5 130 14) + 1)) 130 12 4)) else (if bt tx N f = (61 : Int) then some ([], (upM (upM h5 130 14 ((h5 130 14) + 1)) 130 12 4)) else some ([], (upM (upM h5 130 14 ((h5 130 14) + 1)) 130 12 1)))))) else none) else X xs d k_M_ahead 64 [mR 130, mI (bt tx N f)] [] (upM h5 130 15 0))) else X xs d k_M_ahead 41 [mR 130, mI (bt tx N f)] [] h4))) = r → X xs d k_M_ahead 0 [mR 130, mC 0] [] k = r := by
    intro r hr
    rw [e_M_ahead_0, r2]
    refine cI_of (m_byteAt tk hN) ?_
    refine if_n (no.1) ?_
    rw [r2]
    refine cI_of (m_byteAt tk hN) ?_
    refine if_n (no.2) ?_
    rw [r2]
    refine cI_of (m_byteAt (tk.f (TmF.rf.up (by omega))) hN) ?_
    rw [hl]
    exact hr
  unfold tkF
  by_cases hz : N ≤ f
  · rw [if_pos hz]
    refine ⟨upM l 130 12 0, pre _ (by rw [bt_out (by omega), if_pos rfl]), ⟨by rw [up_at, if_neg (by omega)]; exact l3, fun _ => by rw [up_at, if_neg (by omega)]; exact l4, by rw [up_eq]; rfl, fun z => absurd z (by dsimp only; decide)⟩, lf.up (by omega)⟩
  rw [if_neg hz]
  rw [bt_in (show f < N by omega)] at pre l5
  have tb := (t.2 f (by omega)).2
  by_cases z1 : isLt (tx f) = true
  · rw [if_pos z1]
    obtain ⟨g', q1, q2, q3, q4, q5⟩ := m_letters (xs := xs) (d := d) (f := f) hN (tx f) (N - f) f l (by omega) tl l4
    refine ⟨g', pre _ ?_, ⟨by rw [q4]; exact l3, fun _ => q2, q3, fun z => absurd z (by dsimp only; decide)⟩, lf.tr q5⟩
    refine if_n (by omega) ?_
    refine cI_of (m_isSmall) ?_
    refine if_n ((by rw [b2i_y z1]; decide)) ?_
    exact q1
  rw [if_neg z1]
  by_cases z2 : isDg (tx f) = true
  · rw [if_pos z2]
    obtain ⟨g', q1, q2, q3⟩ := m_digits (xs := xs) (d := d) (f := f) hN (tx f) (N - f) f (upM l 130 15 0) (by omega) (Nat.le_refl _) (tl.f (TmF.rf.up (by omega))) (by rw [up_at, if_neg (by omega)]; exact l4) (by rw [up_at, if_neg (by omega)]; exact l3) (by rw [up_eq]; omega) (fun i hi => by omega) (fun _ => by rw [up_eq, Nat.sub_self]; rfl)
    refine ⟨g', pre _ ?_, q2, lf.tr ((TmF.rf.up (by omega)).tr q3)⟩
    refine if_n (by omega) ?_
    refine cI_of (m_isSmall) ?_
    refine if_y (b2i_n z1) ?_
    refine cI_of (m_isDigit) ?_
    refine if_n ((by rw [b2i_y z2]; decide)) ?_
    exact q1
  rw [if_neg z2]
  by_cases z3 : isSg (tx f) = true
  · rw [if_pos z3]
    refine ⟨upM (upM l 130 14 ((f : Int) + 1)) 130 12 4, pre _ ?_, ⟨by rw [up_at, if_neg (by omega), up_at, if_neg (by omega)]; exact l3, fun _ => by rw [up_at, if_neg (by omega), up_eq]; rfl, by rw [up_eq]; rfl, fun _ => by rw [up_at, if_neg (by omega), up_at, if_neg (by omega)]; exact l5⟩, (lf.up (by omega)).up (by omega)⟩
    unfold isSg at z3
    rw [decide_eq_true_iff] at z3
    refine if_n (by omega) ?_
    refine cI_of (m_isSmall) ?_
    refine if_y (b2i_n z1) ?_
    refine cI_of (m_isDigit) ?_
    refine if_y (b2i_n z2) ?_
    rw [l4]
    refine if_y (by omega) ?_
    by_cases y1 : tx f = 59
    · rw [if_pos y1]
    rw [if_neg y1]
    by_cases y2 : tx f = 60
    · rw [if_pos y2]
    rw [if_neg y2]
    by_cases y3 : tx f = 62
    · rw [if_pos y3]
    rw [if_neg y3, if_pos (by omega)]
  · rw [if_neg z3]
    refine ⟨upM (upM l 130 14 ((f : Int) + 1)) 130 12 1, pre _ ?_, ⟨by rw [up_at, if_neg (by omega), up_at, if_neg (by omega)]; exact l3, fun z => absurd rfl z, by rw [up_eq]; rfl, fun z => absurd z (by dsimp only; decide)⟩, (lf.up (by omega)).up (by omega)⟩
    unfold isSg at z3
    rw [decide_eq_true_iff] at z3
    refine if_n (by omega) ?_
    refine cI_of (m_isSmall) ?_
    refine if_y (b2i_n z1) ?_
    refine cI_of (m_isDigit) ?_
    refine if_y (b2i_n z2) ?_
    rw [l4]
    refine if_y (by omega) ?_
    rw [if_neg (by omega), if_neg (by omega), if_neg (by omega), if_neg (by omega)]
end
/-- the key words of the reference, as letters -/
def keyL : List (List Nat) := [[15, 4, 4, 19], [19, 8, 1, 13], [7, 12, 15, 23], [3, 15, 15, 12], [8, 5, 1, 20], [18, 5, 1, 3, 8], [16, 5, 18, 19, 15, 14], [20, 15, 1, 19, 20], [1, 20], [13, 5, 1, 14, 20], [23, 1, 18, 13], [7, 12, 1, 19, 19, 5, 19], [20, 15], [4, 18, 9, 14, 11], [14, 9, 7, 8, 20], [5, 22, 5, 14, 9, 14, 7], [6, 9, 12, 12], [1, 14, 25], [23, 8, 5, 14], [12, 15, 15, 16], [5, 14, 4], [19, 20, 15, 16], [12, 9, 20]]
def kof (w : List Nat) : List (List Nat) → Nat → Int
  | [], _ => -1
  | v :: r, n => if v = w then (n : Int) else kof w r (n + 1)
/-- the reference's number of the key word that a token is -/
def mWd (k : Tk) : Int := if k.1 = 1 then kof k.2.2 keyL 0 else -1
theorem lext : ∀ (v w : List Nat), v = w ↔ v.length = w.length ∧ ∀ j, j < v.length → v.getD j 0 = w.getD j 0
  | [], [] => ⟨fun _ => ⟨rfl, fun j h => by cases h⟩, fun _ => rfl⟩
  | [], b :: w => ⟨fun h => (by cases h), fun h => (by cases h.1)⟩
  | a :: v, [] => ⟨fun h => (by cases h), fun h => (by cases h.1)⟩
  | a :: v, b :: w => by
    constructor
    · intro h
      rw [h]
      exact ⟨rfl, fun _ _ => rfl⟩
    · rintro ⟨h1, h2⟩
      have e0 : a = b := h2 0 (by simp)
      have e1 : v = w := (lext v w).mpr ⟨by simpa using h1, fun j hj => by
        have := h2 (j + 1) (by simpa using hj)
        simpa using this⟩
      rw [e0, e1]
def posOk (K : List Int) : List (List Nat) → Nat → Bool
  | [], k => k == 122
  | v :: r, k => (List.range v.length).all (fun i => (nth K (k + i)).getD 0 == ((96 + v.getD i 0 : Nat) : Int) && decide (1 ≤ v.getD i 0)) && ((nth K (k + v.length)).getD 0 == (32 : Int)) && decide (k + v.length < 122) && posOk K r (k + v.length + 1)
theorem keyOk : posOk (CT [] 6) keyL 1 = true := by decide +kernel
section
variable {xs : List Int} {d : Nat} {tx : Nat → Int} {N : Nat} {g : mM}
theorem m_inWords {k : Tk} {f e : Nat} (t : TxM tx N g) (hN : N ≤ 900) (s : TokM k f e g) (w : TkW tx N k f e) : C xs d 100 0 [mR 130, mC 6] g = some ([mI (mWd k)], g) := by
  obtain ⟨s1, s2, s3, s4⟩ := s
  obtain ⟨w1, w2, w3, w4, w5, w6, w7⟩ := w
  rw [c_M_inWords, s3]
  unfold mWd
  by_cases z : k.1 = 1
  rotate_left
  · rw [if_neg z, if_neg (fun y => z (kdM_w.mp y))]
  rw [if_pos z, if_pos (kdM_w.mpr z)]
  obtain ⟨v1, v2, v3⟩ := w4 z
  have e14 := s2 (by omega)
  have eN := w3 (by omega)
  have wl : k.2.2.length = e - f := by rw [v1, ltN_len]
  have wg : ∀ i, i < e - f → ((k.2.2.getD i 0 : Nat) : Int) + 96 = tx (f + i) := fun i hi => by
    have := v3 i hi
    unfold isLt at this
    rw [decide_eq_true_iff] at this
    rw [v1, ltN_get _ _ hi]
    omega
  generalize hwk : k.2.2 = u at wl wg
  have one : ∀ (v : List Nat) (n a : Nat) (x4 x5 x6 : mv), (∀ i, i < v.length → (nth (CT xs 6) (a + i)).getD 0 = ((96 + v.getD i 0 : Nat) : Int) ∧ 1 ≤ v.getD i 0) → (nth (CT xs 6) (a + v.length)).getD 0 = 32 → a + v.length < 122 → n ≤ 100 → ∃ y4 y5 y6, X xs d k_M_inWords 10 [mR 130, mC 6, mI (n : Int), mI (a : Int), x4, x5, x6] [] g = if v = u then some ([mI (n : Int)], g) else X xs d k_M_inWords 10 [mR 130, mC 6, mI ((n + 1 : Nat) : Int), mI ((a + v.length + 1 : Nat) : Int), y4, y5, y6] [] g := by
    intro v n a x4 x5 x6 hc h32 hl hn
    have scan : ∀ (m i : Nat), i + m = v.length → X xs d k_M_inWords 16 [mR 130, mC 6, mI (n : Int), mI (a : Int), mI ((a + i : Nat) : Int), x5, x6] [] g = X xs d k_M_inWords 38 [mR 130, mC 6, mI (n : Int), mI (a : Int), mI ((a + v.length : Nat) : Int), mI (b2i (v.length = u.length)), mI (a : Int)] [] g := by
      intro m
      induction m with
      | zero =>
        intro i hi
        obtain rfl : i = v.length := by omega
        rw [e_M_inWords_16, show (((a + v.length : Nat) : Int)).toNat = a + v.length by omega, h32, e14, s1]
        refine if_y (by omega) ?_
        rw [if_pos rfl]
        refine if_y (by omega) ?_
        refine if_y (by omega) ?_
        by_cases y : v.length = u.length
        · rw [if_pos (by omega), e_M_inWords_35, b2i_y y]
        · rw [if_neg (by omega), e_M_inWords_35, b2i_n y]
      | succ m ih =>
        intro i hi
        have := hc i (by omega)
        rw [e_M_inWords_16, show (((a + i : Nat) : Int)).toNat = a + i by omega, this.1]
        refine if_y (by omega) ?_
        refine if_n (by omega) ?_
        refine if_y (by omega) ?_
        exact ih (i + 1) (by omega)
    have comp : ∀ (m i : Nat), i + m = v.length → ∃ y6, X xs d k_M_inWords 38 [mR 130, mC 6, mI (n : Int), mI (a : Int), mI ((a + v.length : Nat) : Int), mI (b2i (v.length = u.length ∧ ∀ j, j < i → v.getD j 0 = u.getD j 0)), mI ((a + i : Nat) : Int)] [] g = if v = u then some ([mI (n : Int)], g) else X xs d k_M_inWords 10 [mR 130, mC 6, mI ((n + 1 : Nat) : Int), mI ((a + v.length + 1 : Nat) : Int), mI ((a + v.length : Nat) : Int), mI 0, y6] [] g := by
      intro m
      induction m with
      | zero =>
        intro i hi
        obtain rfl : i = v.length := by omega
        refine ⟨mI ((a + v.length : Nat) : Int), ?_⟩
        rw [e_M_inWords_38]
        refine if_n (by omega) ?_
        rw [e_M_inWords_61]
        by_cases y : v = u
        · rw [if_pos y, if_neg (by rw [b2i_y ((lext v u).mp y)]; decide)]
        · have ny := fun z => y ((lext v u).mpr z)
          rw [if_neg y, b2i_n ny, if_pos rfl, if_pos (by omega), if_pos (by omega)]
          rfl
      | succ m ih =>
        intro i hi
        by_cases y : v.length = u.length ∧ ∀ j, j < i → v.getD j 0 = u.getD j 0
        · have c1 := hc i (by omega)
          have c2 := wg i (by omega)
          have nx := ih (i + 1) (by omega)
          have step : X xs d k_M_inWords 38 [mR 130, mC 6, mI (n : Int), mI (a : Int), mI ((a + v.length : Nat) : Int), mI (b2i (v.length = u.length ∧ ∀ j, j < i → v.getD j 0 = u.getD j 0)), mI ((a + i : Nat) : Int)] [] g = X xs d k_M_inWords 38 [mR 130, mC 6, mI (n : Int), mI (a : Int), mI ((a + v.length : Nat) : Int), mI (b2i (v.length = u.length ∧ ∀ j, j < i + 1 → v.getD j 0 = u.getD j 0)), mI ((a + (i + 1) : Nat) : Int)] [] g := by
            rw [e_M_inWords_38, show (((a + i : Nat) : Int)).toNat = a + i by omega, c1.1, s1, b2i_y y, show (f : Int) + ((a + i : Nat) : Int) - (a : Int) = ((f + i : Nat) : Int) by omega]
            refine if_y (by omega) ?_
            refine if_n (by omega) ?_
            refine if_y (by omega) ?_
            refine if_y (by omega) ?_
            refine if_y (by omega) ?_
            refine cI_of (m_byteAt t hN) ?_
            rw [bt_in (by omega), ← c2]
            by_cases q : v.getD i 0 = u.getD i 0
            · have : v.length = u.length ∧ ∀ j, j < i + 1 → v.getD j 0 = u.getD j 0 := ⟨y.1, fun j hj => by
                by_cases e : j = i
                · rw [e]; exact q
                · exact y.2 j (by omega)⟩
              rw [b2i_y this]
              refine if_y ((by rw [q]; omega)) ?_
              rw [e_M_inWords_58]
              refine if_y (by omega) ?_
              rfl
            · rw [b2i_n (fun z => q (z.2 i (by omega)))]
              refine if_n ((by omega)) ?_
              rw [e_M_inWords_58]
              refine if_y (by omega) ?_
              rfl
          rw [step]
          exact nx
        · refine ⟨mI ((a + i : Nat) : Int), ?_⟩
          have nv : v ≠ u := fun z => by
            obtain ⟨z1, z2⟩ := (lext v u).mp z
            exact y ⟨z1, fun j hj => z2 j (by omega)⟩
          rw [e_M_inWords_38, b2i_n y]
          refine if_y (by omega) ?_
          rw [if_pos rfl, e_M_inWords_61, if_pos rfl, if_neg nv, if_pos (by omega), if_pos (by omega)]
          rfl
    obtain ⟨i0, hi0⟩ : ∃ i : Nat, i = 0 := ⟨0, rfl⟩
    have c0 := comp v.length i0 (by omega)
    have b0 : b2i (v.length = u.length ∧ ∀ j, j < i0 → v.getD j 0 = u.getD j 0) = b2i (v.length = u.length) := by
      by_cases y : v.length = u.length
      · rw [b2i_y y, b2i_y ⟨y, fun j hj => by omega⟩]
      · rw [b2i_n y, b2i_n (fun z => y z.1)]
    rw [b0, hi0] at c0
    have s0 := scan v.length 0 (by omega)
    have st : X xs d k_M_inWords 10 [mR 130, mC 6, mI (n : Int), mI (a : Int), x4, x5, x6] [] g = X xs d k_M_inWords 38 [mR 130, mC 6, mI (n : Int), mI (a : Int), mI ((a + v.length : Nat) : Int), mI (b2i (v.length = u.length)), mI (a : Int)] [] g := by
      rw [e_M_inWords_10]
      refine if_y (by omega) ?_
      exact s0
    rw [st]
    obtain ⟨y6, c0⟩ := c0
    exact ⟨_, _, _, c0⟩
  have all : ∀ (vs : List (List Nat)) (n a : Nat) (x4 x5 x6 : mv), posOk (CT xs 6) vs a = true → n + vs.length ≤ 100 → X xs d k_M_inWords 10 [mR 130, mC 6, mI (n : Int), mI (a : Int), x4, x5, x6] [] g = some ([mI (kof u vs n)], g) := by
    intro vs
    induction vs with
    | nil =>
      intro n a x4 x5 x6 h hn
      have : a = 122 := by simpa [posOk] using h
      rw [e_M_inWords_10]
      refine if_n (by omega) ?_
      rfl
    | cons v r ih =>
      intro n a x4 x5 x6 h hn
      rw [posOk, Bool.and_eq_true, Bool.and_eq_true, Bool.and_eq_true, List.all_eq_true, decide_eq_true_iff, beq_iff_eq] at h
      obtain ⟨⟨⟨h1, h2⟩, h3⟩, h4⟩ := h
      rw [List.length_cons] at hn
      obtain ⟨y4, y5, y6, E⟩ := one v n a x4 x5 x6 (fun i hi => by
        have := h1 i (List.mem_range.mpr hi)
        rw [Bool.and_eq_true, beq_iff_eq, decide_eq_true_iff] at this
        exact this) h2 h3 (by omega)
      rw [E, kof]
      by_cases y : v = u
      · rw [if_pos y, if_pos y]
      · rw [if_neg y, if_neg y]
        exact ih (n + 1) _ _ _ _ h4 (by omega)
  exact all keyL 0 1 _ _ _ keyOk (by decide)
end
