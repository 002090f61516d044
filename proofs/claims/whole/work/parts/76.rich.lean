/-! THE RICH MACHINE: it makes cells, too -/
def rset (r : mRf) (a k v : Nat) : mRf := match nth r a with
  | some l => lset r a (lset l k (some v))
  | none => r
def ex2 (ct : Nat → List Int) (cl : Nat → Nat → List mv → mH → Option (List mv × mH)) (N : Nat → List mv → List mv → mH → Option (List mv × mH)) (i : mIn) (ls st : List mv) (g : mH) : Option (List mv × mH) :=
  match i.1 with
  | .new ci => match i.2.2 with
    | [nf] => N i.2.1 ls (mR g.1.length :: st) (g.1 ++ [.inl ci], g.2.1 ++ [List.replicate nf none], g.2.2)
    | _ => none
  | .newarray _ => match st, i.2.2 with
    | .inl n :: st, [ty] => if 0 ≤ n ∧ n ≤ 10000 then N i.2.1 ls (mR g.1.length :: st) (g.1 ++ [.inr (ty, n.toNat)], g.2.1 ++ [[]], g.2.2) else none
    | _, _ => none
  | .anewarray ci => match st with
    | .inl n :: st => if 0 ≤ n ∧ n ≤ 10000 then N i.2.1 ls (mR g.1.length :: st) (g.1 ++ [.inr (10 + ci, n.toNat)], g.2.1 ++ [List.replicate n.toNat none], g.2.2) else none
    | _ => none
  | .multianewarray _ _ => match st with
    | .inl k :: .inl n :: st => if (0 ≤ n ∧ n ≤ 100) ∧ 0 ≤ k ∧ k ≤ 100 then N i.2.1 ls (mR g.1.length :: st) (g.1 ++ (.inr (3, n.toNat) :: List.replicate n.toNat (.inr (1, k.toNat))), g.2.1 ++ ((List.range n.toNat).map (fun q => some (g.1.length + 1 + q)) :: List.replicate n.toNat []), g.2.2) else none
    | _ => none
  | .aastore => match st, i.2.2 with
    | .inr (.inr (.inl v)) :: .inl x :: .inr (.inr (.inl a)) :: st, [ty] => match mArr g.1 a ty with
      | some n => match mObj g.1 v (ty - 10) with
        | true => if inA x n ∧ 10 ≤ ty then N i.2.1 ls st (g.1, rset g.2.1 a x.toNat v, g.2.2) else none
        | false => none
      | none => none
    | _, _ => none
  | .invokespecial _ => match st with
    | .inr (.inr (.inl _)) :: st => few st (N i.2.1 ls st g)
    | _ => none
  | .invokestatic id => match i.2.2 with
    | [na, fl, kd, w, rc] => match mTake na [] st with
      | some (args, rest) => match (Nat.ble (wds args) w).and (rcv g.1 rc args) with
        | true => few rest (match cl id fl args g with
          | some (ret, g') => match kd, ret with
            | 0, [] => N i.2.1 ls rest g'
            | 1, [.inl v] => N i.2.1 ls (mI v :: rest) g'
            | 2, [.inr (.inl v)] => N i.2.1 ls (mL v :: rest) g'
            | 3, [.inr (.inr (.inl v))] => N i.2.1 ls (mR v :: rest) g'
            | _, _ => none
          | none => none)
        | false => none
      | none => none
    | _ => none
  | .putfield k => match i.2.2, st with
    | [ci, 2], .inr (.inr (.inl v)) :: .inr (.inr (.inl a)) :: st => match mObj g.1 a ci with
      | true => N i.2.1 ls st (g.1, rset g.2.1 a k v, g.2.2)
      | false => none
    | _, _ => ex1 g.1 g.2.1 ct (fun _ _ _ _ => none) (fun v m => some (v, (g.1, g.2.1, m))) (fun j ls st m => N j ls st (g.1, g.2.1, m)) i ls st g.2.2
  | _ => ex1 g.1 g.2.1 ct (fun _ _ _ _ => none) (fun v m => some (v, (g.1, g.2.1, m))) (fun j ls st m => N j ls st (g.1, g.2.1, m)) i ls st g.2.2
section
variable (P : mPr) (ct : Nat → List Int)
def exR : Nat → Nat → mCode → Nat → List mv → List mv → mH → Option (List mv × mH)
  | 0, _, _, _, _, _, _ => none
  | n + 1, d, c, j, ls, st, g => match nth c j with
    | none => none
    | some i => ex2 ct (fun id fl args g => match fl, d with
        | 0, d => exR n d (P id).1 0 (mPad (P id).2 (mEntry args)) [] g
        | _, d + 1 => exR n d (P id).1 0 (mPad (P id).2 (mEntry args)) [] g
        | _, 0 => none) (exR n d c) i ls st g
def clR (n d : Nat) (id fl : Nat) (args : List mv) (g : mH) : Option (List mv × mH) := match fl, d with
  | 0, d => exR P ct n d (P id).1 0 (mPad (P id).2 (mEntry args)) [] g
  | _, d + 1 => exR P ct n d (P id).1 0 (mPad (P id).2 (mEntry args)) [] g
  | _, 0 => none
theorem exR_succ (n d : Nat) (c : mCode) (j : Nat) (ls st : List mv) (g : mH) : exR P ct (n + 1) d c j ls st g = match nth c j with
    | none => none
    | some i => ex2 ct (clR P ct n d) (exR P ct n d c) i ls st g := by
  rw [exR]
  rfl
end
section
variable {ρ τ : Type}
/-- what a comes to, b comes to, seen by f -/
def Mp (f : ρ → τ) (a : Option ρ) (b : Option τ) : Prop := ∀ r, a = some r → b = some (f r)
theorem Mp.none' {f : ρ → τ} {b : Option τ} : Mp f none b := fun r h => by cases h
theorem Mp.ite {f : ρ → τ} {c : Prop} [Decidable c] {a a' : Option ρ} {b b' : Option τ} (h : Mp f a b) (h' : Mp f a' b') : Mp f (if c then a else a') (if c then b else b') := by
  by_cases q : c
  · simpa only [if_pos q] using h
  · simpa only [if_neg q] using h'
theorem Mp.few {f : ρ → τ} {st : List mv} {a : Option ρ} {b : Option τ} (h : Mp f a b) : Mp f (few st a) (few st b) := by
  unfold Jvm.Pilot.@@N@@.few
  split
  · exact h
  · exact Mp.none'
theorem Mp.pB {f : ρ → τ} {c : Nat} {x y : Int} {a a' : Option ρ} {b b' : Option τ} (h : Mp f a b) (h' : Mp f a' b') : Mp f (pB c x y a a') (pB c x y b b') := by
  unfold Jvm.Pilot.@@N@@.pB
  split
  · exact Mp.ite h h'
  · exact Mp.ite h' h
  · exact Mp.ite h h'
  · exact Mp.ite h' h
  · exact Mp.ite h h'
  · exact Mp.ite h' h
theorem Mp.pSw {f : ρ → τ} {x : Int} {d : Nat} {N : Nat → Option ρ} {M : Nat → Option τ} (h : ∀ t, Mp f (N t) (M t)) : ∀ (l : List Nat) (lo : Int), Mp f (pSw x N d lo l) (pSw x M d lo l)
  | [], lo => h d
  | t :: ts, lo => Mp.ite (h t) (Mp.pSw h ts (lo + 1))
theorem Mp.pLk {f : ρ → τ} {x : Int} {d : Nat} {N : Nat → Option ρ} {M : Nat → Option τ} (h : ∀ t, Mp f (N t) (M t)) : ∀ (l : List Nat), Mp f (pLk x N d l) (pLk x M d l)
  | [] => h d
  | [_] => h d
  | _ :: t :: ts => Mp.ite (h t) (Mp.pLk h ts)
theorem Mp.stK {f : ρ → τ} {v : mv} : ∀ (k : Nat) (ls : List mv) {K : List mv → Option ρ} {L : List mv → Option τ}, (∀ l, Mp f (K l) (L l)) → Mp f (stK v k ls K) (stK v k ls L)
  | 0, [], _, _, _ => Mp.none'
  | 0, _ :: l, _, _, h => h _
  | 1, [], _, _, _ => Mp.none'
  | 1, [_], _, _, _ => Mp.none'
  | 1, a :: _ :: l, _, _, h => h _
  | k + 2, [], _, _, _ => Mp.none'
  | k + 2, a :: l, _, _, h => Mp.stK (k + 1) l (fun l => h (a :: l))
theorem Mp.stL {f : ρ → τ} {v : mv} : ∀ (k : Nat) (ls : List mv) {K : List mv → Option ρ} {L : List mv → Option τ}, (∀ l, Mp f (K l) (L l)) → Mp f (stL v k ls K) (stL v k ls L)
  | 0, [], _, _, _ => Mp.none'
  | 0, [_], _, _, _ => Mp.none'
  | 0, _ :: _ :: l, _, _, h => h _
  | 1, [], _, _, _ => Mp.none'
  | 1, [_], _, _, _ => Mp.none'
  | 1, [_, _], _, _, _ => Mp.none'
  | 1, a :: _ :: _ :: l, _, _, h => h _
  | k + 2, [], _, _, _ => Mp.none'
  | k + 2, a :: l, _, _, h => Mp.stL (k + 1) l (fun l => h (a :: l))
theorem ex1_mp (S : mSh) (R : List (List (Option Nat))) (ct : Nat → List Int) {f : ρ → τ} {cl cl' : Nat → Nat → List mv → mM → Option (List mv × mM)} {ret : List mv → mM → Option ρ} {ret' : List mv → mM → Option τ} {N : Nat → List mv → List mv → mM → Option ρ} {N' : Nat → List mv → List mv → mM → Option τ}
    (hr : ∀ v h, Mp f (ret v h) (ret' v h)) (hN : ∀ j ls st h, Mp f (N j ls st h) (N' j ls st h)) (i : mIn) (hi : ∀ id, i.1 ≠ .invokestatic id) (ls st : List mv) (h : mM) :
    Mp f (ex1 S R ct cl ret N i ls st h) (ex1 S R ct cl' ret' N' i ls st h) := by
  intro r H
  obtain ⟨o, nx, l⟩ := i
  unfold ex1 at H ⊢
  dsimp only at H ⊢
  split at H
  all_goals repeat' first
    | (cases H; done)
    | exact absurd rfl (hi _)
    | exact hN _ _ _ _ _ H
    | exact hr _ _ _ H
    | (revert H; exact Mp.ite (hN _ _ _ _) Mp.none' _)
    | (revert H; exact Mp.ite (Mp.ite (hN _ _ _ _) Mp.none') Mp.none' _)
    | (revert H; exact Mp.ite (hr _ _) Mp.none' _)
    | (revert H; exact Mp.stK _ _ (fun l => hN _ _ _ _) _)
    | (revert H; exact Mp.stL _ _ (fun l => hN _ _ _ _) _)
    | (revert H; exact Mp.ite (Mp.stK _ _ (fun l => hN _ _ _ _)) Mp.none' _)
    | (revert H; exact Mp.few (hN _ _ _ _) _)
    | (revert H; exact Mp.few (Mp.ite (hN _ _ _ _) Mp.none') _)
    | (revert H; exact Mp.pB (hN _ _ _ _) (hN _ _ _ _) _)
    | (revert H; exact Mp.pSw (fun t => hN _ _ _ _) _ _ _)
    | (revert H; exact Mp.pLk (fun t => hN _ _ _ _) _ _)
    | split at H
end
section
variable (P : mPr) (S : mSh) (R : List (List (Option Nat))) (ct : Nat → List Int)
theorem exR_of : ∀ (n d : Nat) (c : mCode) (j : Nat) (ls st : List mv) (h : mM), Mp (fun r : List mv × mM => (r.1, (S, R, r.2))) (exN P S R ct n d c j ls st h) (exR P ct n d c j ls st (S, R, h)) := by
  intro n
  induction n with
  | zero => intro d c j ls st h r H; cases H
  | succ n ih =>
    intro d c j ls st h r H
    rw [exN_succ] at H
    rw [exR_succ]
    split at H
    · cases H
    · next i hi =>
      try rw [hi]
      dsimp only
      by_cases hq : ∃ id, i.1 = .invokestatic id
      · obtain ⟨id, hid⟩ := hq
        obtain ⟨o, nx, l⟩ := i
        dsimp only at hid
        subst hid
        unfold ex1 at H
        unfold ex2
        dsimp only at H ⊢
        have hcl : ∀ fl a h r, clN P S R ct n d id fl a h = some r → clR P ct n d id fl a (S, R, h) = some (r.1, (S, R, r.2)) := by
          intro fl a h r h9
          cases fl with
          | zero => exact ih _ _ _ _ _ _ _ h9
          | succ fl => cases d with
            | zero => cases h9
            | succ d => exact ih _ _ _ _ _ _ _ h9
        split at H
        · next na fl kd w rc =>
          split at H
          · next args rest hT =>
            split at H
            rotate_left
            · cases H
            next hw9 =>
            try dsimp only
            try rw [hT]
            try dsimp only
            try rw [hw9]
            try dsimp only
            obtain ⟨g1, g2⟩ : Nat.ble (wds rest) 8 = true ∧ _ = some r := by
              unfold few at H
              split at H
              · next q => exact ⟨q, H⟩
              · cases H
            unfold few
            rw [g1]
            dsimp only
            split at g2
            · unfold cV at g2
              split at g2
              · next h9 hc => rw [hcl _ _ _ _ hc]; exact ih _ _ _ _ _ _ _ g2
              · cases g2
            · unfold cI at g2
              split at g2
              · next v h9 hc => rw [hcl _ _ _ _ hc]; exact ih _ _ _ _ _ _ _ g2
              · cases g2
            · unfold cL at g2
              split at g2
              · next v h9 hc => rw [hcl _ _ _ _ hc]; exact ih _ _ _ _ _ _ _ g2
              · cases g2
            · unfold cR at g2
              split at g2
              · next v h9 hc => rw [hcl _ _ _ _ hc]; exact ih _ _ _ _ _ _ _ g2
              · cases g2
            · cases g2
          · cases H
        · cases H
      · have hi9 : ∀ id, i.1 ≠ .invokestatic id := fun id q => hq ⟨id, q⟩
        have k9 := ex1_mp S R ct (f := fun r : List mv × mM => (r.1, (S, R, r.2))) (cl' := fun _ _ _ _ => none) (ret' := fun v m => some (v, (S, R, m))) (N' := fun j ls st m => exR P ct n d c j ls st (S, R, m)) (fun v h r q => by cases q; rfl) (fun j ls st h => ih d c j ls st h) i hi9 ls st h r H
        obtain ⟨o, nx, l⟩ := i
        unfold ex2
        dsimp only at hi9 ⊢
        split
        all_goals first
          | exact k9
          | (exfalso; exact hi9 _ rfl)
          | (exfalso; unfold ex1 at H; dsimp only at H; cases H; done)
          | skip
        split
        · exfalso
          unfold ex1 at H
          dsimp only at H
          cases H
        · exact k9
end
