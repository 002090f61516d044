/-! GROWTH: what the rich machine does to shapes and references -/
theorem nth_app {α : Type} {l k : List α} {a : Nat} : nth (l ++ k) a = if a < l.length then nth l a else nth k (a - l.length) := by
  rw [nth_get, nth_get, nth_get, List.getElem?_append]
theorem nth_some {α : Type} {l : List α} {a : Nat} (h : a < l.length) : ∃ x, nth l a = some x := ⟨l[a], by rw [nth_get]; exact List.getElem?_eq_getElem h⟩
theorem lset_len {α : Type} {b : α} : ∀ {l : List α} {k : Nat}, (lset l k b).length = l.length
  | [], k => by cases k <;> rfl
  | _ :: l, 0 => rfl
  | a :: l, k + 1 => by
    show (lset l k b).length + 1 = l.length + 1
    rw [lset_len]
theorem lset_nth {α : Type} {b : α} : ∀ {l : List α} {k j : Nat}, nth (lset l k b) j = if j = k ∧ k < l.length then some b else nth l j
  | [], k, j => by
    rw [if_neg (by simp)]
    cases k <;> rfl
  | a :: l, 0, j => by
    cases j with
    | zero => rw [if_pos ⟨rfl, by simp⟩]; rfl
    | succ j => rw [if_neg (by omega)]; rfl
  | a :: l, k + 1, j => by
    cases j with
    | zero => rw [if_neg (by omega)]; rfl
    | succ j =>
      show nth (lset l k b) j = _
      rw [lset_nth (l := l)]
      simp only [List.length_cons]
      by_cases q : j = k ∧ k < l.length
      · rw [if_pos q, if_pos ⟨by omega, by omega⟩]
      · rw [if_neg q, if_neg (by omega)]
        rfl
def rowOk (x : Nat ⊕ (Nat × Nat)) (l : List (Option Nat)) : Prop := match x with
  | .inl ci => ∀ f, nth FT ci = some f → l.length = f.length
  | .inr (t, n) => 10 ≤ t → l.length = n
def rOk (S : mSh) (r : mRf) : Prop := r.length = S.length ∧ ∀ a x l, nth S a = some x → nth r a = some l → rowOk x l
theorem rOk_app {S T : mSh} {r R : mRf} (h : rOk S r) (hl : R.length = T.length) (ht : ∀ a x l, nth T a = some x → nth R a = some l → rowOk x l) : rOk (S ++ T) (r ++ R) := by
  refine ⟨by rw [List.length_append, List.length_append, h.1, hl], fun a x l h1 h2 => ?_⟩
  rw [nth_app] at h1 h2
  rw [h.1] at h2
  by_cases q : a < S.length
  · rw [if_pos q] at h1 h2
    exact h.2 a x l h1 h2
  · rw [if_neg q] at h1 h2
    exact ht _ x l h1 h2
theorem rOk_one {S : mSh} {r : mRf} {x : Nat ⊕ (Nat × Nat)} {l : List (Option Nat)} (h : rOk S r) (hx : rowOk x l) : rOk (S ++ [x]) (r ++ [l]) := by
  refine rOk_app h rfl fun a y k h1 h2 => ?_
  have h0 : a = 0 := by have := nth_lt h1; simpa using this
  subst h0
  cases h1
  cases h2
  exact hx
theorem rset_nth {r : mRf} {a k v b : Nat} : nth (rset r a k v) b = if b = a then (nth r a).map (fun l => lset l k (some v)) else nth r b := by
  unfold rset
  cases q : nth r a with
  | none =>
    dsimp only
    by_cases hb : b = a
    · rw [if_pos hb, hb, q]; rfl
    · rw [if_neg hb]
  | some l =>
    dsimp only
    rw [lset_nth]
    by_cases hb : b = a
    · rw [if_pos ⟨hb, nth_lt q⟩, if_pos hb]; rfl
    · rw [if_neg (fun z => hb z.1), if_neg hb]
theorem rset_len {r : mRf} {a k v : Nat} : (rset r a k v).length = r.length := by
  unfold rset
  split
  · exact lset_len
  · rfl
theorem rOk_set {S : mSh} {r : mRf} {a k v : Nat} (h : rOk S r) : rOk S (rset r a k v) := by
  refine ⟨by rw [rset_len]; exact h.1, fun b x l h1 h2 => ?_⟩
  rw [rset_nth] at h2
  by_cases hb : b = a
  · rw [if_pos hb] at h2
    subst hb
    cases q : nth r b with
    | none => rw [q] at h2; cases h2
    | some l0 =>
      rw [q] at h2
      cases h2
      have := h.2 b x l0 h1 q
      unfold rowOk at this ⊢
      rw [lset_len]
      exact this
  · rw [if_neg hb] at h2
    exact h.2 b x l h1 h2
theorem nth_rep {α : Type} {n a : Nat} {x y : α} (h : nth (List.replicate n x) a = some y) : y = x := by
  rw [nth_get] at h
  have := List.getElem?_eq_some_iff.mp h
  obtain ⟨h1, h2⟩ := this
  rw [← h2, List.getElem_replicate]
theorem rOk_mna {S : mSh} {r : mRf} {n k : Nat} {f : Nat → Option Nat} (h : rOk S r) : rOk (S ++ (.inr (3, n) :: List.replicate n (.inr (1, k)))) (r ++ ((List.range n).map f :: List.replicate n [])) := by
  refine rOk_app h (by simp) fun a x l h1 h2 => ?_
  cases a with
  | zero =>
    cases h1
    intro q
    omega
  | succ a =>
    have e := nth_rep (show nth (List.replicate n (Sum.inr (1, k))) a = some x from h1)
    subst e
    intro q
    omega
section
variable {ρ : Type}
def Pp (P : ρ → Prop) (a : Option ρ) : Prop := ∀ r, a = some r → P r
theorem Pp.none' {P : ρ → Prop} : Pp P none := fun r h => by cases h
theorem Pp.ite {P : ρ → Prop} {c : Prop} [Decidable c] {a a' : Option ρ} (h : Pp P a) (h' : Pp P a') : Pp P (if c then a else a') := by
  by_cases q : c
  · rwa [if_pos q]
  · rwa [if_neg q]
theorem Pp.few {P : ρ → Prop} {st : List mv} {a : Option ρ} (h : Pp P a) : Pp P (few st a) := by
  unfold Jvm.Pilot.@@N@@.few
  split
  · exact h
  · exact Pp.none'
theorem Pp.pB {P : ρ → Prop} {c : Nat} {x y : Int} {a a' : Option ρ} (h : Pp P a) (h' : Pp P a') : Pp P (pB c x y a a') := by
  unfold Jvm.Pilot.@@N@@.pB
  split
  · exact Pp.ite h h'
  · exact Pp.ite h' h
  · exact Pp.ite h h'
  · exact Pp.ite h' h
  · exact Pp.ite h h'
  · exact Pp.ite h' h
theorem Pp.pSw {P : ρ → Prop} {x : Int} {d : Nat} {N : Nat → Option ρ} (h : ∀ t, Pp P (N t)) : ∀ (l : List Nat) (lo : Int), Pp P (pSw x N d lo l)
  | [], lo => h d
  | t :: ts, lo => Pp.ite (h t) (Pp.pSw h ts (lo + 1))
theorem Pp.pLk {P : ρ → Prop} {x : Int} {d : Nat} {N : Nat → Option ρ} (h : ∀ t, Pp P (N t)) : ∀ (l : List Nat), Pp P (pLk x N d l)
  | [] => h d
  | [_] => h d
  | _ :: t :: ts => Pp.ite (h t) (Pp.pLk h ts)
theorem Pp.stK {P : ρ → Prop} {v : mv} : ∀ (k : Nat) (ls : List mv) {K : List mv → Option ρ}, (∀ l, Pp P (K l)) → Pp P (stK v k ls K)
  | 0, [], _, _ => Pp.none'
  | 0, _ :: l, _, h => h _
  | 1, [], _, _ => Pp.none'
  | 1, [_], _, _ => Pp.none'
  | 1, a :: _ :: l, _, h => h _
  | k + 2, [], _, _ => Pp.none'
  | k + 2, a :: l, _, h => Pp.stK (k + 1) l (fun l => h (a :: l))
theorem Pp.stL {P : ρ → Prop} {v : mv} : ∀ (k : Nat) (ls : List mv) {K : List mv → Option ρ}, (∀ l, Pp P (K l)) → Pp P (stL v k ls K)
  | 0, [], _, _ => Pp.none'
  | 0, [_], _, _ => Pp.none'
  | 0, _ :: _ :: l, _, h => h _
  | 1, [], _, _ => Pp.none'
  | 1, [_], _, _ => Pp.none'
  | 1, [_, _], _, _ => Pp.none'
  | 1, a :: _ :: _ :: l, _, h => h _
  | k + 2, [], _, _ => Pp.none'
  | k + 2, a :: l, _, h => Pp.stL (k + 1) l (fun l => h (a :: l))
theorem ex1_pp (S : mSh) (R : List (List (Option Nat))) (ct : Nat → List Int) {P : ρ → Prop} {cl : Nat → Nat → List mv → mM → Option (List mv × mM)} {ret : List mv → mM → Option ρ} {N : Nat → List mv → List mv → mM → Option ρ}
    (hr : ∀ v h, Pp P (ret v h)) (hN : ∀ j ls st h, Pp P (N j ls st h)) (i : mIn) (hi : ∀ id, i.1 ≠ .invokestatic id) (ls st : List mv) (h : mM) :
    Pp P (ex1 S R ct cl ret N i ls st h) := by
  intro r H
  obtain ⟨o, nx, l⟩ := i
  unfold ex1 at H
  dsimp only at H
  split at H
  all_goals repeat' first
    | (cases H; done)
    | exact absurd rfl (hi _)
    | exact hN _ _ _ _ _ H
    | exact hr _ _ _ H
    | exact Pp.ite (hN _ _ _ _) Pp.none' _ H
    | exact Pp.ite (Pp.ite (hN _ _ _ _) Pp.none') Pp.none' _ H
    | exact Pp.ite (hr _ _) Pp.none' _ H
    | exact Pp.stK _ _ (fun l => hN _ _ _ _) _ H
    | exact Pp.stL _ _ (fun l => hN _ _ _ _) _ H
    | exact Pp.ite (Pp.stK _ _ (fun l => hN _ _ _ _)) Pp.none' _ H
    | exact Pp.few (hN _ _ _ _) _ H
    | exact Pp.few (Pp.ite (hN _ _ _ _) Pp.none') _ H
    | exact Pp.pB (hN _ _ _ _) (hN _ _ _ _) _ H
    | exact Pp.pSw (fun t => hN _ _ _ _) _ _ _ H
    | exact Pp.pLk (fun t => hN _ _ _ _) _ _ H
    | split at H
end
def Grow (S S' : mSh) : Prop := ∃ T, S' = S ++ T
theorem Grow.rf {S : mSh} : Grow S S := ⟨[], by simp⟩
theorem Grow.tr {A B C : mSh} (h : Grow A B) (k : Grow B C) : Grow A C := by
  obtain ⟨T, rfl⟩ := h
  obtain ⟨U, rfl⟩ := k
  exact ⟨T ++ U, by rw [List.append_assoc]⟩
theorem few_pp {ρ : Type} {P : ρ → Prop} {st : List mv} {a : Option ρ} (h : Pp P a) : Pp P (few st a) := Pp.few h
theorem ex2_grow {ct : Nat → List Int} {cl : Nat → Nat → List mv → mH → Option (List mv × mH)} {N : Nat → List mv → List mv → mH → Option (List mv × mH)} {g : mH} {P : List mv × mH → Prop} {i : mIn} {id oc rk maxL j : Nat} {cc : ByteArray} {pcs ixs : List Nat}
    (hg : rOk g.1 g.2.1) (hok : okI id cc pcs ixs oc rk maxL j i = true) (hcl : ∀ id fl a v g', cl id fl a g = some (v, g') → rOk g'.1 g'.2.1 ∧ Grow g.1 g'.1)
    (hN : ∀ j ls st g', rOk g'.1 g'.2.1 → Grow g.1 g'.1 → Pp P (N j ls st g')) (hr : ∀ v m, P (v, (g.1, g.2.1, m))) (ls st : List mv) : Pp P (ex2 ct cl N i ls st g) := by
  obtain ⟨o, nx, lst⟩ := i
  have h1 : (∀ id, o ≠ .invokestatic id) → Pp P (ex1 g.1 g.2.1 ct (fun _ _ _ _ => none) (fun v m => some (v, (g.1, g.2.1, m))) (fun j ls st m => N j ls st (g.1, g.2.1, m)) (o, nx, lst) ls st g.2.2) := fun hq => ex1_pp _ _ _ (fun (v : List mv) (m : mM) (r : List mv × mH) (e : some (v, (g.1, g.2.1, m)) = some r) => by cases e; exact hr _ _) (fun j ls st m => hN j ls st (g.1, g.2.1, m) hg Grow.rf) _ hq _ _ _
  unfold okI at hok
  intro r H
  unfold ex2 at H
  dsimp only at H hok
  split at H
  · next ci =>
    rw [Bool.and_eq_true] at hok
    obtain ⟨-, h2⟩ := hok
    split at H
    · next nf =>
      split at h2
      · next f q hf =>
        cases q
        rw [Nat.eq_of_beq_eq_true h2] at H
        exact hN _ _ _ (_, _, _) (rOk_one hg (show rowOk (.inl ci) (List.replicate f.length none) from fun f' hf' => by cases hf.symm.trans hf'; rw [List.length_replicate])) ⟨_, rfl⟩ _ H
      · cases h2
    · cases H
  · split at H
    · next n st ty =>
      have ht : ty < 3 := by
        rw [Bool.and_eq_true] at hok
        obtain ⟨h2, -⟩ := hok
        split at h2
        · next q => cases q; omega
        · next q => cases q; omega
        · next q => cases q; omega
        · cases h2
      exact Pp.ite (hN _ _ _ (_, _, _) (rOk_one hg (show rowOk (.inr (ty, _)) _ from fun q => by omega)) ⟨_, rfl⟩) Pp.none' _ H
    · cases H
  · split at H
    · exact Pp.ite (hN _ _ _ (_, _, _) (rOk_one hg (show rowOk (.inr (_, _)) (List.replicate _ none) from fun _ => by rw [List.length_replicate])) ⟨_, rfl⟩) Pp.none' _ H
    · cases H
  · split at H
    · exact Pp.ite (hN _ _ _ _ (rOk_mna hg) ⟨_, rfl⟩) Pp.none' _ H
    · cases H
  · split at H
    · split at H
      · split at H
        · exact Pp.ite (hN _ _ _ (_, _, _) (rOk_set hg) Grow.rf) Pp.none' _ H
        · cases H
      · cases H
    · cases H
  · split at H
    · exact Pp.few (hN _ _ _ _ hg Grow.rf) _ H
    · cases H
  · split at H
    · split at H
      · next args rest _ =>
        split at H
        · obtain ⟨-, H⟩ := few_spec H
          split at H
          · next ret g' hc =>
            obtain ⟨k1, k2⟩ := hcl _ _ _ _ _ hc
            split at H
            · exact hN _ _ _ _ k1 k2 _ H
            · exact hN _ _ _ _ k1 k2 _ H
            · exact hN _ _ _ _ k1 k2 _ H
            · exact hN _ _ _ _ k1 k2 _ H
            · cases H
          · cases H
        · cases H
      · cases H
    · cases H
  · split at H
    · split at H
      · exact hN _ _ _ (_, _, _) (rOk_set hg) Grow.rf _ H
      · cases H
    · exact h1 (fun id q => by cases q) _ H
  · next hq1 hq2 hq3 hq4 hq5 hq6 hq7 hq8 => exact h1 (fun id q => by first | exact hq1 _ q | exact hq2 _ q | exact hq3 _ q | exact hq4 _ q | exact hq6 _ q | exact hq7 _ q | exact hq8 _ q) _ H
/-- every method is checked -/
def Chk : Prop := ∀ id k i, nth (PP id).1 k = some i → okI id (mtB id) (mtP id) (mtX id) (mtO id) (mtK id) (PP id).2 k i = true
theorem exR_grow (hC : Chk) (ct : Nat → List Int) : ∀ (n d id j : Nat) (ls st : List mv) (g : mH), rOk g.1 g.2.1 → Pp (fun r => rOk r.2.1 r.2.2.1 ∧ Grow g.1 r.2.1) (exR PP ct n d (PP id).1 j ls st g) := by
  intro n
  induction n with
  | zero => intro d id j ls st g hg r H; cases H
  | succ n ih =>
    intro d id j ls st g hg r H
    rw [exR_succ] at H
    split at H
    · cases H
    · next i hi =>
      refine ex2_grow (P := fun r => rOk r.2.1 r.2.2.1 ∧ Grow g.1 r.2.1) hg (hC id j i hi) (fun id' fl a v g' hc => ?_) (fun j ls st g' k1 k2 r' H' => ?_) (fun v m => ⟨hg, Grow.rf⟩) ls st r H
      · cases fl with
        | zero => exact ih _ _ _ _ _ _ hg _ hc
        | succ fl => cases d with
          | zero => cases hc
          | succ d => exact ih _ _ _ _ _ _ hg _ hc
      · have := ih _ _ _ _ _ _ k1 _ H'
        exact ⟨this.1, k2.tr this.2⟩
