/-! EQUIV 33: one step of times after another -/
section
variable {xs : List Int} {d : Nat} {hT hM : mM} {tx : Nat → Int} {N : Nat} {gT gM : mM} {k : Tk} {f e : Nat} {cN n s D : Nat}
def RoW (cN : Nat) (r : Int) (gT gM : mM) : Prop := (gT 49 r = 22 ∧ gM 131 (1702 + 6 * r) = 20 ∨ gT 49 r ≠ 22 ∧ RoA cN (gT 49 r) r (1702 + 6 * r) gT gM) ∧ (gT 54 r ≠ r → gT 54 r = gM 131 (1702 + 6 * r + 4))
/-- what both have read of times so far -/
def TsI (cN n s D : Nat) (gT gM : mM) : Prop := (gT 48 6 = (n : Int) ∧ gT 48 7 = (s : Int) ∧ gT 47 3 = (D : Int)) ∧ (gM 131 1664 = (n : Int) ∧ gM 130 23 = (s : Int) ∧ gM 130 22 = (D : Int)) ∧ (n + D ≤ 2 * s ∧ s ≤ 30 ∧ D ≤ 3) ∧ (∀ j, 0 ≤ j → j < (D : Int) → gM 138 j = gT 55 j) ∧ NsI (n : Int) (D : Int) (gT 49) (gT 54) (gT 55) ∧ ∀ r, 0 ≤ r → r < (n : Int) → RoW cN r gT gM
theorem RoW.mv {r : Int} {gT' gM' : mM} (R : RoW cN r gT gM) (e1 : ∀ a, 49 ≤ a → a ≤ 54 → gT' a r = gT a r) (e2 : ∀ j, 0 ≤ j → j ≤ 5 → gM' 131 (1702 + 6 * r + j) = gM 131 (1702 + 6 * r + j)) : RoW cN r gT' gM' := by
  have a0 := e2 0 (by omega) (by omega)
  rw [Int.add_zero] at a0
  unfold RoW RoA at R ⊢
  rw [e1 49 (by omega) (by omega), e1 50 (by omega) (by omega), e1 51 (by omega) (by omega), e1 52 (by omega) (by omega), e1 53 (by omega) (by omega), e1 54 (by omega) (by omega), a0, e2 1 (by omega) (by omega), e2 2 (by omega) (by omega), e2 4 (by omega) (by omega), e2 5 (by omega) (by omega)]
  exact R
theorem TsI.fr {gT' gM' : mM} (T : TsI cN n s D gT gM) (p : TsF gT gT') (q : TmF gM gM') : TsI cN n s D gT' gM' := by
  obtain ⟨⟨a1, a2, a3⟩, ⟨a4, a5, a6⟩, a7, a8, a9, a10⟩ := T
  refine ⟨by rw [p.1 48 (by omega), p.1 47 (by omega)]; exact ⟨a1, a2, a3⟩, by rw [q.1 131 (by omega), q.2 23 (by omega), q.2 22 (by omega)]; exact ⟨a4, a5, a6⟩, a7, fun j h1 h2 => by rw [q.1 138 (by omega), p.1 55 (by omega)]; exact a8 j h1 h2, by rw [p.1 49 (by omega), p.1 54 (by omega), p.1 55 (by omega)]; exact a9, fun r h1 h2 => (a10 r h1 h2).mv (fun a b c => by rw [p.1 a (by omega)]) (fun j b c => by rw [q.1 131 (by omega)])⟩
/-- a new row of the class -/
def nrT (g : mM) (n t : Int) : mM := upM (upM (upM (upM (upM (upM (upM g 49 n t) 50 n (-1)) 51 n (-1)) 52 n 0) 53 n 0) 54 n n) 48 6 (n + 1)
theorem nrT_r {g : mM} {n t : Int} {a : Nat} (h : a < 48 ∨ 54 < a) : nrT g n t a = g a := by
  unfold nrT
  rw [up_row (by omega), up_row (by omega), up_row (by omega), up_row (by omega), up_row (by omega), up_row (by omega), up_row (by omega)]
theorem nrT_ne {g : mM} {n t j : Int} {a : Nat} (h : 49 ≤ a ∧ a ≤ 54) (hj : j ≠ n) : nrT g n t a j = g a j := by
  have u : ∀ (k : mM) (b : Nat) (v : Int), upM k b n v a j = k a j := fun k b v => if_neg (fun z => hj z.2)
  unfold nrT
  rw [up_ne (by omega), u, u, u, u, u, u]
theorem nrT_49 {g : mM} {n t : Int} : nrT g n t 49 n = t := by
  unfold nrT
  rw [up_ne (by omega), up_ne (by omega), up_ne (by omega), up_ne (by omega), up_ne (by omega), up_ne (by omega), up_eq]
theorem nrT_54 {g : mM} {n t : Int} : nrT g n t 54 n = n := by
  unfold nrT
  rw [up_ne (by omega), up_eq]
theorem nrT_48 {g : mM} {n t j : Int} : nrT g n t 48 j = if j = 6 then n + 1 else g 48 j := by
  unfold nrT
  rw [up_at, up_ne (by omega), up_ne (by omega), up_ne (by omega), up_ne (by omega), up_ne (by omega), up_ne (by omega)]
theorem t_addRow {t : Int} (h6 : gT 48 6 = (n : Int)) (h7 : gT 48 7 = (s : Int)) (hn : n ≤ 59) (hs : s ≤ 30) : C xs d 321 0 [mR 48, mI t] gT = some ([mI (n : Int)], if t = 22 then nrT gT (n : Int) t else upM (nrT gT (n : Int) t) 48 7 ((s : Int) + 1)) := by
  rw [c_Ti_add, h6, h7, show min (n : Int) 59 = (n : Int) by omega]
  refine if_y (by omega) ?_
  refine if_y (by omega) ?_
  refine if_y (by omega) ?_
  refine if_y (by omega) ?_
  refine if_y (by omega) ?_
  refine if_y (by omega) ?_
  refine if_y (by omega) ?_
  by_cases z : t = 22
  · rw [if_pos z, if_pos z]
    rfl
  · rw [if_neg z, if_neg z]
    refine if_y (by omega) ?_
    rfl
theorem RdS.nr (S : RdS hT hM tx N k f e gT gM) {m t : Int} : RdS hT hM tx N k f e (nrT gT m t) gM := by
  unfold nrT
  exact ((((((S.uT (by omega)).uT (by omega)).uT (by omega)).uT (by omega)).uT (by omega)).uT (by omega)).uT (by omega)
/-- a new row of the reference -/
def nrM (g : mM) (n r m : Int) : mM := upM (upM (upM (upM (upM (upM (upM g 131 r m) 131 (r + 1) 0) 131 (r + (1 + 1)) 0) 131 (r + (1 + 1 + 1)) 0) 131 (r + (1 + 1 + 1 + 1)) 0) 131 (r + (1 + 1 + 1 + 1 + 1)) 0) 131 1664 (n + 1)
theorem nrM_r {g : mM} {n r m : Int} {a : Nat} (h : a ≠ 131) : nrM g n r m a = g a := by
  unfold nrM
  rw [up_row h, up_row h, up_row h, up_row h, up_row h, up_row h, up_row h]
theorem nrM_0 {g : mM} {n r m : Int} (h : 1702 ≤ r) : nrM g n r m 131 r = m := by
  unfold nrM
  rw [up_at, if_neg (by omega), up_at, if_neg (by omega), up_at, if_neg (by omega), up_at, if_neg (by omega), up_at, if_neg (by omega), up_at, if_neg (by omega), up_eq]
theorem nrM_n {g : mM} {n r m : Int} : nrM g n r m 131 1664 = n + 1 := by
  unfold nrM
  rw [up_eq]
theorem nrM_o {g : mM} {n r m j : Int} (h : j ≠ 1664) (h2 : j < r ∨ r + 5 < j) : nrM g n r m 131 j = g 131 j := by
  unfold nrM
  rw [up_at, if_neg h, up_at, if_neg (by omega), up_at, if_neg (by omega), up_at, if_neg (by omega), up_at, if_neg (by omega), up_at, if_neg (by omega), up_at, if_neg (by omega)]
theorem RdS.nrm (S : RdS hT hM tx N k f e gT gM) {n r m : Int} (h : 1702 ≤ r) : RdS hT hM tx N k f e gT (nrM gM n r m) := by
  unfold nrM
  exact ((((((S.uM (by omega)).uM (by omega)).uM (by omega)).uM (by omega)).uM (by omega)).uM (by omega)).uM (by omega)
def OutT (hT hM : mM) (tx : Nat → Int) (N f cN : Nat) (oT oM : Option (List mv × mM)) : Prop := (∃ gT' gM' k' f' e' n' s' D', oT = some ([mI 1], gT') ∧ oM = some ([mI 1], gM') ∧ RdS hT hM tx N k' f' e' gT' gM' ∧ f < f' ∧ TsI cN n' s' D' gT' gM') ∨ ∃ gT' gM', oT = some ([mI 0], gT') ∧ oM = some ([mI 0], gM') ∧ Flt hT hM gT' gM'
/-- the reference up to the word behind -/
theorem m_rowUp {m : Int} {x4 : Int} (hr : n ≤ 59) (a4 : gM 131 1664 = (n : Int)) (a5 : gM 130 23 = (s : Int)) (hs : s ≤ 30) : X xs d k_M_timeStep 62 [mR 130, mI m, mI (n : Int), mI (1702 + 6 * (n : Int)), mI x4, mC 0] [] gM = cV (C xs d 98 0 [mR 130] (nrM (upM gM 130 23 ((s : Int) + (if m = 20 then 0 else 1))) (n : Int) (1702 + 6 * (n : Int)) m)) (fun h1 => cI (C xs d 123 0 [mR 130, mI m, mI (1702 + 6 * (n : Int))] h1) (fun v2 h2 => (if v2 = (0 : Int) then some ([mI 0], h2) else (if x4 = (0 : Int) then X xs d k_M_timeStep 123 [mR 130, mI m, mI (n : Int), mI (1702 + 6 * (n : Int)), mI x4, mI (1 + 1 + 1 + 1 + 1 + 1)] [] h2 else (if inA (h2 130 22) 3 then (if inI ((h2 130 22) + 1) then X xs d k_M_timeStep 123 [mR 130, mI m, mI (n : Int), mI (1702 + 6 * (n : Int)), mI x4, mI (1 + 1 + 1 + 1 + 1 + 1)] [] (upM (upM h2 138 (h2 130 22) (n : Int)) 130 22 ((h2 130 22) + 1)) else none) else none))))) := by
  have s71 : X xs d k_M_timeStep 62 [mR 130, mI m, mI (n : Int), mI (1702 + 6 * (n : Int)), mI x4, mC 0] [] gM = X xs d k_M_timeStep 80 [mR 130, mI m, mI (n : Int), mI (1702 + 6 * (n : Int)), mI x4, mI 1] [] (upM (upM gM 130 23 ((s : Int) + (if m = 20 then 0 else 1))) 131 (1702 + 6 * (n : Int)) m) := by
    rw [e_M_timeStep_62]
    by_cases z : m = 20
    · rw [if_pos z, if_pos z, e_M_timeStep_71, a5, if_pos (show inI ((s : Int) + 0) by unfold inI; omega)]
      refine if_y (by omega) ?_
      rfl
    · rw [if_neg z, if_neg z, e_M_timeStep_71, a5, if_pos (show inI ((s : Int) + 1) by unfold inI; omega)]
      refine if_y (by omega) ?_
      rfl
  rw [s71, e_M_timeStep_80]
  refine if_y (by omega) ?_
  refine if_y (by omega) ?_
  refine if_y (by omega) ?_
  refine if_y (by omega) ?_
  rw [e_M_timeStep_80]
  refine if_y (by omega) ?_
  refine if_y (by omega) ?_
  refine if_y (by omega) ?_
  refine if_y (by omega) ?_
  rw [e_M_timeStep_80]
  refine if_y (by omega) ?_
  refine if_y (by omega) ?_
  refine if_y (by omega) ?_
  refine if_y (by omega) ?_
  rw [e_M_timeStep_80]
  refine if_y (by omega) ?_
  refine if_y (by omega) ?_
  refine if_y (by omega) ?_
  refine if_y (by omega) ?_
  rw [e_M_timeStep_80]
  refine if_y (by omega) ?_
  refine if_y (by omega) ?_
  refine if_y (by omega) ?_
  refine if_y (by omega) ?_
  rw [e_M_timeStep_80]
  refine if_n (by omega) ?_
  have c : ∀ v w : Int, upM (upM (upM (upM (upM (upM (upM gM 130 23 v) 131 (1702 + 6 * (n : Int)) w) 131 (1702 + 6 * (n : Int) + 1) 0) 131 (1702 + 6 * (n : Int) + (1 + 1)) 0) 131 (1702 + 6 * (n : Int) + (1 + 1 + 1)) 0) 131 (1702 + 6 * (n : Int) + (1 + 1 + 1 + 1)) 0) 131 (1702 + 6 * (n : Int) + (1 + 1 + 1 + 1 + 1)) 0 131 1664 = (n : Int) := fun v w => by
    rw [up_at, if_neg (by omega), up_at, if_neg (by omega), up_at, if_neg (by omega), up_at, if_neg (by omega), up_at, if_neg (by omega), up_at, if_neg (by omega), up_ne (by omega)]
    exact a4
  rw [c]
  refine if_y (by omega) ?_
  rfl
theorem p_tstep (S : RdS hT hM tx N k f e gT gM) (P : PeR cN hT hM) (T : TsI cN n s D gT gM) (hk : 14 ≤ tWd k ∧ tWd k ≤ 23 ∧ tWd k ≠ 20 ∧ tWd k ≠ 22) : OutT hT hM tx N f cN (C xs d 326 0 [mR 47, mR 12] gT) (C xs d 124 0 [mR 130] gM) := by
  have R := S.wd
  obtain ⟨z4, z0⟩ := wd_4 (k := k) (by omega)
  obtain ⟨⟨a1, a2, a3⟩, ⟨a4, a5, a6⟩, ⟨b1, b2, b3⟩, a8, a9, a10⟩ := id T
  obtain ⟨t, ht⟩ : ∃ t, tWd k = t := ⟨_, rfl⟩
  obtain ⟨m, hm⟩ : ∃ m, mWd k = m := ⟨_, rfl⟩
  have WR := R
  rw [ht, hm] at R WR
  unfold WdR at R
  rw [ht] at hk
  -- whether it opens
  obtain ⟨o, ho⟩ : ∃ o : Int, (o = 1 ∧ (t = 19 ∨ t = 21)) ∨ (o = 0 ∧ t ≠ 19 ∧ t ≠ 21) := by
    by_cases z : t = 19 ∨ t = 21
    · exact ⟨1, Or.inl ⟨rfl, z⟩⟩
    · exact ⟨0, Or.inr ⟨rfl, by omega, by omega⟩⟩
  have hd : ∀ r, X xs d k_TR_readStep 40 [mR 47, mR 12, mI t, mC 0, mC 0, mC 0] [mI o] gT = r → s < 30 → C xs d 326 0 [mR 47, mR 12] gT = r := by
    intro r hr hs
    rw [c_TR_readStep, S.w9, ht, if_neg (by omega), if_neg (by omega), if_neg (by omega), a2, if_pos (by omega)]
    rcases ho with ⟨rfl, z⟩ | ⟨rfl, z1, z2⟩
    · rcases z with z | z
      · rw [if_pos z, e_TR_readStep_37]; exact hr
      · rw [if_neg (by omega), if_pos z, e_TR_readStep_37]; exact hr
    · rw [if_neg z1, if_neg z2]; exact hr
  have i6 : inI (6 * (n : Int)) := by unfold inI; omega
  have i7 : inI (1702 + 6 * (n : Int)) := by unfold inI; omega
  have mu : ∀ r, X xs d k_M_timeStep 41 [mR 130, mI m, mI (n : Int), mI (1702 + 6 * (n : Int)), mI o, mC 0] [] gM = r → C xs d 124 0 [mR 130] gM = r := by
    intro r hr
    rw [c_M_timeStep]
    refine cI_of (S.wM) ?_
    rw [hm, a4, if_pos i6, if_pos i7]
    have tail : X xs d k_M_timeStep 24 [mR 130, mI m, mI (n : Int), mI (1702 + 6 * (n : Int)), mC 0, mC 0] [mI o] gM = r := by
      rw [e_M_timeStep_24, if_neg (by omega), if_neg (by omega), if_neg (by omega)]
      exact hr
    rcases ho with ⟨rfl, z⟩ | ⟨rfl, z1, z2⟩
    · rcases z with z | z
      · rw [if_pos (by omega), e_M_timeStep_21]; exact tail
      · rw [if_neg (by omega), if_pos (by omega), e_M_timeStep_21]; exact tail
    · rw [if_neg (by omega), if_neg (by omega)]; exact tail
  by_cases many : s = 30
  · refine Or.inr ⟨_, _, ?_, mu _ ?_, S.fault (why := 6) (by omega)⟩
    · rw [c_TR_readStep, S.w9, ht, if_neg (by omega), if_neg (by omega), if_neg (by omega), a2, if_neg (by omega)]
      refine cI_of (S.oT 6) ?_
      rfl
    · rw [e_M_timeStep_41, if_neg (by omega), a5, if_pos (by omega)]
      refine cI_of (S.oM 6) ?_
      rfl
  have mu2 : ∀ r, X xs d k_M_timeStep 52 [mR 130, mI m, mI (n : Int), mI (1702 + 6 * (n : Int)), mI o, mC 0] [] gM = r → C xs d 124 0 [mR 130] gM = r := by
    intro r hr
    refine mu r ?_
    rw [e_M_timeStep_41, if_neg (by omega), a5, if_neg (by omega)]
    exact hr
  by_cases deep : o = 1 ∧ D = 3
  · refine Or.inr ⟨_, _, hd _ ?_ (by omega), mu2 _ ?_, S.fault (why := 7) (by omega)⟩
    · rw [e_TR_readStep_40, if_neg (by omega), a3, if_neg (by omega)]
      refine cI_of (S.oT 7) ?_
      rfl
    · rw [e_M_timeStep_52, if_neg (by omega), a6, if_pos (by omega)]
      refine cI_of (S.oM 7) ?_
      rfl
  have hn59 : n ≤ 58 := by omega
  have mu3 : ∀ r, X xs d k_M_timeStep 62 [mR 130, mI m, mI (n : Int), mI (1702 + 6 * (n : Int)), mI o, mC 0] [] gM = r → C xs d 124 0 [mR 130] gM = r := by
    intro r hr
    refine mu2 r ?_
    rw [e_M_timeStep_52]
    rcases ho with ⟨rfl, z⟩ | ⟨rfl, z1, z2⟩
    · rw [if_neg (by decide), a6, if_neg (by omega)]; exact hr
    · rw [if_pos rfl]; exact hr
  -- the class's row
  have tadd := t_addRow (xs := xs) (d := d) (t := t) a1 a2 (by omega) b2
  rw [if_neg hk.2.2.2] at tadd
  obtain ⟨gA, hgA⟩ : ∃ gA, (if o = 0 then upM (nrT gT (n : Int) t) 48 7 ((s : Int) + 1) else upM (upM (upM (nrT gT (n : Int) t) 48 7 ((s : Int) + 1)) 55 (D : Int) (n : Int)) 47 3 ((D : Int) + 1)) = gA := ⟨_, rfl⟩
  have SA : RdS hT hM tx N k f e gA gM := by
    rw [← hgA]
    split
    · exact S.nr.uT (by omega)
    · exact ((S.nr.uT (by omega)).uT (by omega)).uT (by omega)
  have td : ∀ r, X xs d k_TR_readStep 71 [mR 47, mR 12, mI t, mI o, mI (n : Int), mC 0] [] gA = r → C xs d 326 0 [mR 47, mR 12] gT = r := by
    intro r hr
    refine hd r ?_ (by omega)
    have e47 : upM (nrT gT (n : Int) t) 48 7 ((s : Int) + 1) 47 3 = (D : Int) := by rw [up_ne (by omega), nrT_r (by omega)]; exact a3
    have go : X xs d k_TR_readStep 52 [mR 47, mR 12, mI t, mI o, mC 0, mC 0] [] gT = r := by
      rw [e_TR_readStep_52]
      refine cI_of (tadd) ?_
      rcases ho with ⟨rfl, z⟩ | ⟨rfl, z1, z2⟩
      · rw [if_neg (by decide)] at hgA ⊢
        rw [e47]
        refine if_y (by omega) ?_
        refine if_y (by omega) ?_
        rw [hgA]
        exact hr
      · rw [if_pos rfl] at hgA ⊢
        rw [hgA]
        exact hr
    rw [e_TR_readStep_40]
    rcases ho with ⟨rfl, z⟩ | ⟨rfl, z1, z2⟩
    · rw [if_neg (by decide), a3, if_pos (by omega)]; exact go
    · rw [if_pos rfl]; exact go
  -- rows of the class behind that
  have g49 : ∀ j, gA 49 j = if j = (n : Int) then t else gT 49 j := fun j => by
    have : gA 49 j = nrT gT (n : Int) t 49 j := by
      rw [← hgA]
      split
      · rw [up_ne (by omega)]
      · rw [up_ne (by omega), up_ne (by omega), up_ne (by omega)]
    rw [this]
    by_cases z : j = (n : Int)
    · rw [if_pos z, z, nrT_49]
    · rw [if_neg z, nrT_ne (by omega) z]
  have g54 : ∀ j, gA 54 j = if j = (n : Int) then (n : Int) else gT 54 j := fun j => by
    have : gA 54 j = nrT gT (n : Int) t 54 j := by
      rw [← hgA]
      split
      · rw [up_ne (by omega)]
      · rw [up_ne (by omega), up_ne (by omega), up_ne (by omega)]
    rw [this]
    by_cases z : j = (n : Int)
    · rw [if_pos z, z, nrT_54]
    · rw [if_neg z, nrT_ne (by omega) z]
  have g5x : ∀ a j, 49 ≤ a → a ≤ 54 → j ≠ (n : Int) → gA a j = gT a j := fun a j h1 h2 hj => by
    have : gA a j = nrT gT (n : Int) t a j := by
      rw [← hgA]
      split
      · rw [up_ne (by omega)]
      · rw [up_ne (by omega), up_ne (by omega), up_ne (by omega)]
    rw [this, nrT_ne ⟨h1, h2⟩ hj]
  have g55 : ∀ j, gA 55 j = if o = 1 ∧ j = (D : Int) then (n : Int) else gT 55 j := fun j => by
    rw [← hgA]
    rcases ho with ⟨rfl, z⟩ | ⟨rfl, z1, z2⟩
    · rw [if_neg (by decide), up_ne (by omega), up_at, up_ne (by omega), nrT_r (by omega)]
      by_cases y : j = (D : Int)
      · rw [if_pos y, if_pos ⟨rfl, y⟩]
      · rw [if_neg y, if_neg (fun w => y w.2)]
    · rw [if_pos rfl, up_ne (by omega), nrT_r (by omega), if_neg (fun w => by cases w.1)]
  have g48 : gA 48 6 = (n : Int) + 1 ∧ gA 48 7 = (s : Int) + 1 ∧ gA 47 3 = (D : Int) + o := by
    rw [← hgA]
    rcases ho with ⟨rfl, z⟩ | ⟨rfl, z1, z2⟩
    · rw [if_neg (by decide), up_eq]
      refine ⟨?_, ?_, rfl⟩
      · rw [up_ne (by omega), up_ne (by omega), up_at, if_neg (by omega), nrT_48, if_pos rfl]
      · rw [up_ne (by omega), up_ne (by omega), up_eq]
    · rw [if_pos rfl]
      refine ⟨?_, up_eq, ?_⟩
      · rw [up_at, if_neg (by omega), nrT_48, if_pos rfl]
      · rw [up_ne (by omega), nrT_r (by omega), a3]; omega
  -- the reference's row
  have mrow := m_rowUp (xs := xs) (d := d) (m := m) (x4 := o) (gM := gM) (n := n) (s := s) (by omega) a4 a5 b2
  rw [if_neg (show ¬ m = 20 by omega)] at mrow
  obtain ⟨mA, hmA⟩ : ∃ mA, nrM (upM gM 130 23 ((s : Int) + 1)) (n : Int) (1702 + 6 * (n : Int)) m = mA := ⟨_, rfl⟩
  rw [hmA] at mrow
  have SB : RdS hT hM tx N k f e gA mA := by
    rw [← hmA]
    exact (SA.u130 (by omega)).nrm (by omega)
  obtain ⟨g1, m1, k1, f1, e1, r1, r2, S1, r4, r5, r6⟩ := nxt (xs := xs) (d := d) SB z4
  have ff1 := r4 z0
  have mA0 : mA 131 (1702 + 6 * (n : Int)) = m := by rw [← hmA]; exact nrM_0 (by omega)
  have mAn : mA 131 1664 = (n : Int) + 1 := by rw [← hmA]; exact nrM_n
  have mAo : ∀ j, j ≠ 1664 → (j < 1702 + 6 * (n : Int) ∨ 1702 + 6 * (n : Int) + 5 < j) → mA 131 j = gM 131 j := fun j h1 h2 => by rw [← hmA, nrM_o h1 h2, up_ne (by omega)]
  have mAr : ∀ a, a ≠ 130 → a ≠ 131 → mA a = gM a := fun a h1 h2 => by rw [← hmA, nrM_r h2, up_row h1]
  have mA23 : mA 130 23 = (s : Int) + 1 := by rw [← hmA, nrM_r (by omega), up_eq]
  have mA22 : mA 130 22 = (D : Int) := by rw [← hmA, nrM_r (by omega), up_at, if_neg (by omega)]; exact a6
  rcases p_args (xs := xs) (d := d) S1 P (i := (n : Int)) (r := 1702 + 6 * (n : Int)) (t := t) (m := m) (by omega) (by omega) hk WR (by rw [r6.1 131 (by omega)]; exact mA0) with ⟨g2, m2, k2, f2, e2, s1, s2, S2, s4, s5, s6, s7⟩ | ⟨g2, m2, s1, s2, s3⟩
  rotate_left
  · refine Or.inr ⟨g2, m2, td _ ?_, mu3 _ ?_, s3⟩
    · rw [e_71]
      refine cV_of (r1) ?_
      exact s1
    · rw [mrow]
      refine cV_of (r2) ?_
      refine cI_of (s2) ?_
      rfl
  have m222 : m2 130 22 = (D : Int) := by rw [s7.2.1 22 (by omega), r6.2 22 (by omega)]; exact mA22
  obtain ⟨m3, hm3⟩ : ∃ m3, (if o = 0 then m2 else upM (upM m2 138 (D : Int) (n : Int)) 130 22 ((D : Int) + 1)) = m3 := ⟨_, rfl⟩
  have S3 : RdS hT hM tx N k2 f2 e2 g2 m3 := by
    rw [← hm3]
    split
    · exact S2
    · exact (S2.uM (by omega)).u130 (by omega)
  have mend : ∀ r, cI (C xs d 103 0 [mR 130, mI 59] m3) (fun v1 h1 => (if 0 ≤ v1 ∧ v1 ≤ 1 then some ([mI v1], h1) else none)) = r → C xs d 124 0 [mR 130] gM = r := by
    intro r hr
    refine mu3 r ?_
    rw [mrow]
    refine cV_of (r2) ?_
    refine cI_of (s2) ?_
    rw [if_neg (by decide)]
    rcases ho with ⟨rfl, z⟩ | ⟨rfl, z1, z2⟩
    · rw [if_neg (by decide)] at hm3 ⊢
      rw [m222]
      refine if_y (by omega) ?_
      refine if_y (by omega) ?_
      rw [hm3, e_M_timeStep_123, if_neg (by omega)]
      exact hr
    · rw [if_pos rfl] at hm3 ⊢
      rw [hm3, e_M_timeStep_123, if_neg (by omega)]
      exact hr
  have tend : ∀ r, semT xs d g2 = r → C xs d 326 0 [mR 47, mR 12] gT = r := by
    intro r hr
    refine td r ?_
    rw [e_71]
    refine cV_of (r1) ?_
    rw [s1]
    exact hr
  -- all together
  have T3 : ∀ D' : Nat, (D' : Int) = (D : Int) + o → TsI cN (n + 1) (s + 1) D' g2 m3 := by
    intro D' hD'
    have w : ∀ a, a ≠ 9 → (a < 50 ∨ 53 < a) → g2 a = gA a := fun a h1 h2 => by rw [s6.1 a h1 h2, r5.1 a h1]
    have q49 : ∀ j, g2 49 j = if j = (n : Int) then t else gT 49 j := fun j => by rw [w 49 (by omega) (by omega)]; exact g49 j
    have q54 : ∀ j, g2 54 j = if j = (n : Int) then (n : Int) else gT 54 j := fun j => by rw [w 54 (by omega) (by omega)]; exact g54 j
    have q55 : ∀ j, g2 55 j = if o = 1 ∧ j = (D : Int) then (n : Int) else gT 55 j := fun j => by rw [w 55 (by omega) (by omega)]; exact g55 j
    have q5x : ∀ a j, 49 ≤ a → a ≤ 54 → j ≠ (n : Int) → g2 a j = gT a j := fun a j h1 h2 hj => by
      by_cases z : 50 ≤ a ∧ a ≤ 53
      · rw [s6.2.1 a j z.1 z.2 hj, r5.1 a (by omega)]; exact g5x a j h1 h2 hj
      · rw [w a (by omega) (by omega)]; exact g5x a j h1 h2 hj
    have m3r : m3 131 = m2 131 := by
      rw [← hm3]
      split
      · rfl
      · rw [up_row (by omega), up_row (by omega)]
    have p131 : ∀ j, j ≠ 1664 → (j < 1702 + 6 * (n : Int) ∨ 1702 + 6 * (n : Int) + 5 < j) → m3 131 j = gM 131 j := fun j h1 h2 => by rw [m3r, s7.2.2 j (by omega), r6.1 131 (by omega)]; exact mAo j h1 h2
    have c138 : ∀ j, m3 138 j = if o = 1 ∧ j = (D : Int) then (n : Int) else gM 138 j := fun j => by
      have : m2 138 = gM 138 := by rw [s7.1 138 (by omega) (by omega), r6.1 138 (by omega), mAr 138 (by omega) (by omega)]
      rw [← hm3]
      rcases ho with ⟨rfl, z⟩ | ⟨rfl, z1, z2⟩
      · rw [if_neg (by decide), up_ne (by omega), up_at, this]
        by_cases y : j = (D : Int)
        · rw [if_pos y, if_pos ⟨rfl, y⟩]
        · rw [if_neg y, if_neg (fun v => y v.2)]
      · rw [if_pos rfl, this, if_neg (fun v => by cases v.1)]
    refine ⟨⟨?_, ?_, ?_⟩, ⟨?_, ?_, ?_⟩, ⟨by omega, by omega, by omega⟩, fun j h1 h2 => ?_, ?_, fun r h1 h2 => ?_⟩
    · rw [w 48 (by omega) (by omega), g48.1]; omega
    · rw [w 48 (by omega) (by omega), g48.2.1]; omega
    · rw [w 47 (by omega) (by omega), g48.2.2]; omega
    · rw [m3r, s7.2.2 1664 (by omega), r6.1 131 (by omega), mAn]; omega
    · have : m2 130 23 = (s : Int) + 1 := by rw [s7.2.1 23 (by omega), r6.2 23 (by omega)]; exact mA23
      rw [← hm3]
      split
      · rw [this]; omega
      · rw [up_at, if_neg (by omega), up_ne (by omega), this]; omega
    · rw [← hm3]
      rcases ho with ⟨rfl, z⟩ | ⟨rfl, z1, z2⟩
      · rw [if_neg (by decide), up_eq]; omega
      · rw [if_pos rfl, m222]; omega
    · rw [c138, q55]
      by_cases z : o = 1 ∧ j = (D : Int)
      · rw [if_pos z, if_pos z]
      · rw [if_neg z, if_neg z]
        exact a8 j h1 (by omega)
    · rw [hD', show ((n + 1 : Nat) : Int) = (n : Int) + 1 by omega]
      have W : ∀ j, 0 ≤ j → j < (n : Int) → g2 49 j = gT 49 j := fun j h1 h2 => by rw [q49, if_neg (by omega)]
      have Q : ∀ j, 0 ≤ j → j < (n : Int) → g2 54 j = gT 54 j := fun j h1 h2 => by rw [q54, if_neg (by omega)]
      have O : ∀ j, 0 ≤ j → j < (D : Int) → g2 55 j = gT 55 j := fun j h1 h2 => by rw [q55, if_neg (by omega)]
      have tn : g2 49 (n : Int) = t := by rw [q49, if_pos rfl]
      rcases ho with ⟨rfl, z⟩ | ⟨rfl, z1, z2⟩
      · exact a9.push (by omega) (by omega) W Q O (by rw [tn]; exact z) (by rw [q54, if_pos rfl]) (by rw [q55, if_pos ⟨rfl, rfl⟩])
      · rw [Int.add_zero]
        exact a9.plain (by omega) W Q O (by rw [tn]; unfold opn; omega) (by rw [tn]; omega)
    · by_cases z : r = (n : Int)
      · subst z
        refine ⟨Or.inr ?_, fun y => absurd (by rw [q54, if_pos rfl]) y⟩
        rw [q49, if_pos rfl]
        refine ⟨hk.2.2.2, ?_⟩
        unfold RoA at s5 ⊢
        rw [m3r]
        exact s5
      · refine (a10 r h1 (by omega)).mv (fun a x y => q5x a r x y z) (fun j x y => p131 _ (by omega) (by omega))
  rcases p_semi (xs := xs) (d := d) S3 with ⟨g9, m9, k9, f9, e9, j1, j2, S9, j4, j5, j6⟩ | ⟨g9, m9, j1, j2, j3⟩
  · refine Or.inl ⟨g9, m9, k9, f9, e9, n + 1, s + 1, ((D : Int) + o).toNat, tend _ ?_, mend _ ?_, S9, by omega, (T3 _ (by omega)).fr j5 j6⟩
    · unfold semT
      rw [j1]
      rfl
    · rw [j2]
      rfl
  · refine Or.inr ⟨g9, m9, tend _ ?_, mend _ ?_, j3⟩
    · unfold semT
      rw [j1]
      rfl
    · rw [j2]
      rfl
end
