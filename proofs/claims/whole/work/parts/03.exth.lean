section
variable {ρ : Type}
/-- what a comes to, b n comes to from some n on -/
def Tr (a : Option ρ) (b : Nat → Option ρ) : Prop := ∀ r, a = some r → ∃ n0, ∀ n, n0 ≤ n → b n = some r
theorem Tr.none' {b : Nat → Option ρ} : Tr none b := fun r h => by cases h
theorem Tr.same (a : Option ρ) : Tr a (fun _ => a) := fun r h => ⟨0, fun _ _ => h⟩
theorem Tr.ite {c : Prop} [Decidable c] {a a' : Option ρ} {b b' : Nat → Option ρ} (h : Tr a b) (h' : Tr a' b') : Tr (if c then a else a') (fun n => if c then b n else b' n) := by
  by_cases q : c
  · simpa only [if_pos q] using h
  · simpa only [if_neg q] using h'
theorem Tr.pB {c : Nat} {x y : Int} {a a' : Option ρ} {b b' : Nat → Option ρ} (h : Tr a b) (h' : Tr a' b') : Tr (pB c x y a a') (fun n => pB c x y (b n) (b' n)) := by
  unfold Jvm.Pilot.@@N@@.pB
  split
  · exact Tr.ite h h'
  · exact Tr.ite h' h
  · exact Tr.ite h h'
  · exact Tr.ite h' h
  · exact Tr.ite h h'
  · exact Tr.ite h' h
theorem Tr.pSw {x : Int} {d : Nat} {N : Nat → Option ρ} {M : Nat → Nat → Option ρ} (h : ∀ t, Tr (N t) (fun n => M n t)) : ∀ (l : List Nat) (lo : Int), Tr (pSw x N d lo l) (fun n => pSw x (M n) d lo l)
  | [], lo => h d
  | t :: ts, lo => Tr.ite (h t) (Tr.pSw h ts (lo + 1))
theorem Tr.pLk {x : Int} {d : Nat} {N : Nat → Option ρ} {M : Nat → Nat → Option ρ} (h : ∀ t, Tr (N t) (fun n => M n t)) : ∀ (l : List Nat), Tr (pLk x N d l) (fun n => pLk x (M n) d l)
  | [] => h d
  | [_] => h d
  | _ :: t :: ts => Tr.ite (h t) (Tr.pLk h ts)
theorem Tr.cV {o : Option (List mv × mM)} {p : Nat → Option (List mv × mM)} {K : mM → Option ρ} {L : Nat → mM → Option ρ} (ho : Tr o p) (h : ∀ m, Tr (K m) (fun n => L n m)) : Tr (cV o K) (fun n => cV (p n) (L n)) := by
  intro r H
  unfold Jvm.Pilot.@@N@@.cV at H
  split at H
  · next m =>
    obtain ⟨n1, h1⟩ := ho _ rfl
    obtain ⟨n2, h2⟩ := h _ r H
    refine ⟨max n1 n2, fun n hn => ?_⟩
    (try dsimp only)
    (try dsimp only)
    rw [h1 n (by omega)]
    exact h2 n (by omega)
  · cases H
theorem Tr.cI {o : Option (List mv × mM)} {p : Nat → Option (List mv × mM)} {K : Int → mM → Option ρ} {L : Nat → Int → mM → Option ρ} (ho : Tr o p) (h : ∀ v m, Tr (K v m) (fun n => L n v m)) : Tr (cI o K) (fun n => cI (p n) (L n)) := by
  intro r H
  unfold Jvm.Pilot.@@N@@.cI at H
  split at H
  · next v m =>
    obtain ⟨n1, h1⟩ := ho _ rfl
    obtain ⟨n2, h2⟩ := h _ _ r H
    refine ⟨max n1 n2, fun n hn => ?_⟩
    (try dsimp only)
    rw [h1 n (by omega)]
    exact h2 n (by omega)
  · cases H
theorem Tr.cL {o : Option (List mv × mM)} {p : Nat → Option (List mv × mM)} {K : Int → mM → Option ρ} {L : Nat → Int → mM → Option ρ} (ho : Tr o p) (h : ∀ v m, Tr (K v m) (fun n => L n v m)) : Tr (cL o K) (fun n => cL (p n) (L n)) := by
  intro r H
  unfold Jvm.Pilot.@@N@@.cL at H
  split at H
  · next v m =>
    obtain ⟨n1, h1⟩ := ho _ rfl
    obtain ⟨n2, h2⟩ := h _ _ r H
    refine ⟨max n1 n2, fun n hn => ?_⟩
    (try dsimp only)
    rw [h1 n (by omega)]
    exact h2 n (by omega)
  · cases H
theorem Tr.cR {o : Option (List mv × mM)} {p : Nat → Option (List mv × mM)} {K : Nat → mM → Option ρ} {L : Nat → Nat → mM → Option ρ} (ho : Tr o p) (h : ∀ v m, Tr (K v m) (fun n => L n v m)) : Tr (cR o K) (fun n => cR (p n) (L n)) := by
  intro r H
  unfold Jvm.Pilot.@@N@@.cR at H
  split at H
  · next v m =>
    obtain ⟨n1, h1⟩ := ho _ rfl
    obtain ⟨n2, h2⟩ := h _ _ r H
    refine ⟨max n1 n2, fun n hn => ?_⟩
    (try dsimp only)
    rw [h1 n (by omega)]
    exact h2 n (by omega)
  · cases H
theorem Tr.few {st : List mv} {a : Option ρ} {b : Nat → Option ρ} (h : Tr a b) : Tr (few st a) (fun n => few st (b n)) := by
  unfold Jvm.Pilot.@@N@@.few
  split
  · exact h
  · exact Tr.none'
theorem Tr.stK {v : mv} : ∀ (k : Nat) (ls : List mv) {K : List mv → Option ρ} {L : Nat → List mv → Option ρ}, (∀ l, Tr (K l) (fun n => L n l)) → Tr (stK v k ls K) (fun n => stK v k ls (L n))
  | 0, [], _, _, _ => Tr.none'
  | 0, _ :: l, _, _, h => h _
  | 1, [], _, _, _ => Tr.none'
  | 1, [_], _, _, _ => Tr.none'
  | 1, a :: _ :: l, _, _, h => h _
  | k + 2, [], _, _, _ => Tr.none'
  | k + 2, a :: l, _, _, h => Tr.stK (k + 1) l (fun l => h (a :: l))
theorem Tr.stL {v : mv} : ∀ (k : Nat) (ls : List mv) {K : List mv → Option ρ} {L : Nat → List mv → Option ρ}, (∀ l, Tr (K l) (fun n => L n l)) → Tr (stL v k ls K) (fun n => stL v k ls (L n))
  | 0, [], _, _, _ => Tr.none'
  | 0, [_], _, _, _ => Tr.none'
  | 0, _ :: _ :: l, _, _, h => h _
  | 1, [], _, _, _ => Tr.none'
  | 1, [_], _, _, _ => Tr.none'
  | 1, [_, _], _, _, _ => Tr.none'
  | 1, a :: _ :: _ :: l, _, _, h => h _
  | k + 2, [], _, _, _ => Tr.none'
  | k + 2, a :: l, _, _, h => Tr.stL (k + 1) l (fun l => h (a :: l))
theorem ex1_tr (S : mSh) (R : List (List (Option Nat))) (ct : Nat → List Int) {cl : Nat → Nat → List mv → mM → Option (List mv × mM)} {cl' : Nat → Nat → Nat → List mv → mM → Option (List mv × mM)} {ret : List mv → mM → Option ρ} {N : Nat → List mv → List mv → mM → Option ρ} {N' : Nat → Nat → List mv → List mv → mM → Option ρ}
    (hcl : ∀ id fl a h, Tr (cl id fl a h) (fun n => cl' n id fl a h)) (hN : ∀ j ls st h, Tr (N j ls st h) (fun n => N' n j ls st h)) (i : mIn) (ls st : List mv) (h : mM) :
    Tr (ex1 S R ct cl ret N i ls st h) (fun n => ex1 S R ct (cl' n) ret (N' n) i ls st h) := by
  intro r H
  obtain ⟨o, nx, l⟩ := i
  unfold ex1 at H ⊢
  dsimp only at H ⊢
  split at H
  all_goals repeat' first
    | (cases H; done)
    | exact hN _ _ _ _ _ H
    | exact ⟨0, fun _ _ => H⟩
    | (revert H; exact Tr.ite (hN _ _ _ _) Tr.none' _)
    | (revert H; exact Tr.ite (Tr.ite (hN _ _ _ _) Tr.none') Tr.none' _)
    | (revert H; exact Tr.ite (Tr.same _) Tr.none' _)
    | (revert H; exact Tr.stK _ _ (fun l => hN _ _ _ _) _)
    | (revert H; exact Tr.stL _ _ (fun l => hN _ _ _ _) _)
    | (revert H; exact Tr.ite (Tr.stK _ _ (fun l => hN _ _ _ _)) Tr.none' _)
    | (revert H; exact Tr.few (hN _ _ _ _) _)
    | (revert H; exact Tr.few (Tr.ite (hN _ _ _ _) Tr.none') _)
    | (unfold few at H ⊢; split at H)
    | (revert H; exact Tr.pB (hN _ _ _ _) (hN _ _ _ _) _)
    | (revert H; exact Tr.pSw (fun t => hN _ _ _ _) _ _ _)
    | (revert H; exact Tr.pLk (fun t => hN _ _ _ _) _ _)
    | (revert H; exact Tr.cV (hcl _ _ _ _) (fun m => hN _ _ _ _) _)
    | (revert H; exact Tr.cI (hcl _ _ _ _) (fun v m => hN _ _ _ _) _)
    | (revert H; exact Tr.cL (hcl _ _ _ _) (fun v m => hN _ _ _ _) _)
    | (revert H; exact Tr.cR (hcl _ _ _ _) (fun v m => hN _ _ _ _) _)
    | split at H
end
section
variable (P : mPr) (S : mSh) (R : List (List (Option Nat))) (ct : Nat → List Int)
def clN (n d : Nat) (id fl : Nat) (args : List mv) (h : mM) : Option (List mv × mM) := match fl, d with
  | 0, d => exN P S R ct n d (P id).1 0 (mPad (P id).2 (mEntry args)) [] h
  | _, d + 1 => exN P S R ct n d (P id).1 0 (mPad (P id).2 (mEntry args)) [] h
  | _, 0 => none
theorem exN_succ (n d : Nat) (c : mCode) (j : Nat) (ls st : List mv) (h : mM) : exN P S R ct (n + 1) d c j ls st h = match nth c j with
    | none => none
    | some i => ex1 S R ct (clN P S R ct n d) (fun v h => some (v, h)) (exN P S R ct n d c) i ls st h := by
  rw [exN]
  rfl
theorem exN_ev : ∀ (n d : Nat) (c : mCode) (j : Nat) (ls st : List mv) (h : mM), Tr (exN P S R ct n d c j ls st h) (fun k => exN P S R ct k d c j ls st h) := by
  intro n
  induction n with
  | zero => intro d c j ls st h r H; cases H
  | succ n ih =>
    intro d c j ls st h r H
    rw [exN_succ] at H
    split at H
    · cases H
    · next i hi =>
      have hcl : ∀ id fl a h, Tr (clN P S R ct n d id fl a h) (fun k => clN P S R ct k d id fl a h) := by
        intro id fl a h
        cases fl with
        | zero => exact ih _ _ _ _ _ _
        | succ fl => cases d with
          | zero => exact Tr.none'
          | succ d => exact ih _ _ _ _ _ _
      obtain ⟨n0, h0⟩ := ex1_tr S R ct hcl (fun j ls st h => ih d c j ls st h) i ls st h r H
      refine ⟨n0 + 1, fun k hk => ?_⟩
      obtain ⟨k, rfl⟩ : ∃ q, k = q + 1 := ⟨k - 1, by omega⟩
      show exN P S R ct (k + 1) d c j ls st h = some r
      rw [exN_succ, hi]
      exact h0 k (by omega)
theorem Ex_iff {d : Nat} {c : mCode} {j : Nat} {ls st : List mv} {h : mM} {r : List mv × mM} : Ex P S R ct d c j ls st h = some r ↔ ∃ n, exN P S R ct n d c j ls st h = some r := by
  unfold Ex
  constructor
  · intro H
    split at H
    · next q =>
      cases H
      exact Classical.choose_spec q
    · cases H
  · rintro ⟨n, hn⟩
    have q : ∃ r n, exN P S R ct n d c j ls st h = some r := ⟨r, n, hn⟩
    rw [dif_pos q]
    obtain ⟨m, hm⟩ := Classical.choose_spec q
    obtain ⟨n1, h1⟩ := exN_ev P S R ct n d c j ls st h r hn
    obtain ⟨n2, h2⟩ := exN_ev P S R ct m d c j ls st h _ hm
    have e := (h1 (max n1 n2) (by omega)).symm.trans (h2 (max n1 n2) (by omega))
    exact e.symm
theorem Ex_tr (d : Nat) (c : mCode) (j : Nat) (ls st : List mv) (h : mM) : Tr (Ex P S R ct d c j ls st h) (fun k => exN P S R ct k d c j ls st h) := by
  intro r H
  obtain ⟨n, hn⟩ := (Ex_iff P S R ct).mp H
  exact exN_ev P S R ct n d c j ls st h r hn
theorem Cl_tr (d id fl : Nat) (a : List mv) (h : mM) : Tr (Cl P S R ct d id fl a h) (fun k => clN P S R ct k d id fl a h) := by
  cases fl with
  | zero => exact Ex_tr P S R ct _ _ _ _ _ _
  | succ fl => cases d with
    | zero => exact Tr.none'
    | succ d => exact Ex_tr P S R ct _ _ _ _ _ _
theorem Cl_of (n d id fl : Nat) (a : List mv) (h : mM) : Tr (clN P S R ct n d id fl a h) (fun _ => Cl P S R ct d id fl a h) := by
  cases fl with
  | zero => exact fun r H => ⟨0, fun _ _ => (Ex_iff P S R ct).mpr ⟨n, H⟩⟩
  | succ fl => cases d with
    | zero => exact Tr.none'
    | succ d => exact fun r H => ⟨0, fun _ _ => (Ex_iff P S R ct).mpr ⟨n, H⟩⟩
/-- one instruction on -/
theorem Ex_step {d : Nat} {c : mCode} {j : Nat} {i : mIn} (hi : nth c j = some i) (ls st : List mv) (h : mM) : Ex P S R ct d c j ls st h = ex1 S R ct (Cl P S R ct d) (fun v h => some (v, h)) (Ex P S R ct d c) i ls st h := by
  refine Option.ext fun r => ⟨fun H => ?_, fun H => ?_⟩
  · obtain ⟨n, hn⟩ := (Ex_iff P S R ct).mp H
    cases n with
    | zero => cases hn
    | succ n =>
      rw [exN_succ, hi] at hn
      obtain ⟨n0, h0⟩ := ex1_tr S R ct (fun id fl a h => Cl_of P S R ct n d id fl a h) (N' := fun _ => Ex P S R ct d c) (fun j ls st h r H => ⟨0, fun _ _ => (Ex_iff P S R ct).mpr ⟨n, H⟩⟩) i ls st h r hn
      exact h0 n0 (Nat.le_refl _)
  · obtain ⟨n0, h0⟩ := ex1_tr S R ct (fun id fl a h => Cl_tr P S R ct d id fl a h) (fun j ls st h => Ex_tr P S R ct d c j ls st h) i ls st h r H
    refine (Ex_iff P S R ct).mpr ⟨n0 + 1, ?_⟩
    rw [exN_succ, hi]
    exact h0 n0 (Nat.le_refl _)
theorem Ex_off {d : Nat} {c : mCode} {j : Nat} (hi : nth c j = none) (ls st : List mv) (h : mM) : Ex P S R ct d c j ls st h = none := by
  refine Option.ext fun r => ⟨fun H => ?_, fun H => by cases H⟩
  obtain ⟨n, hn⟩ := (Ex_iff P S R ct).mp H
  cases n with
  | zero => cases hn
  | succ n => rw [exN_succ, hi] at hn; cases hn
/-- so many instructions on, but to the stops -/
noncomputable def blk (d : Nat) (c : mCode) (stop : List Nat) : Nat → Nat → List mv → List mv → mM → Option (List mv × mM)
  | 0, j, ls, st, h => Ex P S R ct d c j ls st h
  | n + 1, j, ls, st, h => match nth c j with
    | none => none
    | some i => ex1 S R ct (Cl P S R ct d) (fun v h => some (v, h)) (fun j ls st h => match stop.elem j with
      | true => Ex P S R ct d c j ls st h
      | false => blk d c stop n j ls st h) i ls st h
theorem Ex_blk (d : Nat) (c : mCode) (stop : List Nat) : ∀ (n : Nat) (j : Nat) (ls st : List mv) (h : mM), Ex P S R ct d c j ls st h = blk P S R ct d c stop n j ls st h := by
  intro n
  induction n with
  | zero => intro j ls st h; rfl
  | succ n ih =>
    intro j ls st h
    show _ = (match nth c j with | none => none | some i => _)
    cases hi : nth c j with
    | none => exact Ex_off P S R ct hi ls st h
    | some i =>
      rw [Ex_step P S R ct hi]
      have e : (fun j ls st h => match stop.elem j with
        | true => Ex P S R ct d c j ls st h
        | false => blk P S R ct d c stop n j ls st h) = Ex P S R ct d c := by
        funext j ls st h
        split
        · rfl
        · exact (ih j ls st h).symm
      show _ = ex1 S R ct _ _ (fun j ls st h => match stop.elem j with
        | true => Ex P S R ct d c j ls st h
        | false => blk P S R ct d c stop n j ls st h) i ls st h
      rw [e]
end
