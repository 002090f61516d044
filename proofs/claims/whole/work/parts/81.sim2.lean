/-! SIM 2: stores, longs' compares, switches, fields, arrays, constants, copies, Math -/
/-- ls' is ls with v at k -/
def StQ (v : mv) (k : Nat) (ls ls' : List mv) : Prop := ls'.length = ls.length ∧ k < ls.length ∧ nth ls' k = some v ∧ ∀ i u, i ≠ k → nth ls' i = some u → u ≠ mC 0 → nth ls i = some u ∧ (i + 1 = k → ∀ x, u ≠ mL x)
theorem kl_eq {a u : mv} (h : kl a = u) (h0 : u ≠ mC 0) : a = u ∧ ∀ x, u ≠ mL x := by
  unfold kl at h
  split at h
  · exact absurd h.symm h0
  · next h1 =>
    refine ⟨h, fun x q => ?_⟩
    exact h1 x (h.trans q)
theorem stK_spec {ρ : Type} {v : mv} {r : ρ} : ∀ (k : Nat) (ls : List mv) {K : List mv → Option ρ}, stK v k ls K = some r → ∃ ls', StQ v k ls ls' ∧ K ls' = some r
  | 0, [], K, h => by cases h
  | 0, a :: l, K, h => ⟨v :: l, ⟨rfl, by simp, rfl, fun i u hi hu _ => by
      cases i with
      | zero => exact absurd rfl hi
      | succ i => exact ⟨hu, fun q => by omega⟩⟩, h⟩
  | 1, [], K, h => by cases h
  | 1, [_], K, h => by cases h
  | 1, a :: b :: l, K, h => ⟨kl a :: v :: l, ⟨rfl, by simp, rfl, fun i u hi hu h0 => by
      cases i with
      | zero =>
        obtain ⟨h1, h2⟩ := kl_eq (Option.some.inj hu) h0
        exact ⟨by rw [← h1]; rfl, fun _ => h2⟩
      | succ i => cases i with
        | zero => exact absurd rfl hi
        | succ i => exact ⟨hu, fun q => by omega⟩⟩, h⟩
  | k + 2, [], K, h => by cases h
  | k + 2, a :: l, K, h => by
    obtain ⟨l', ⟨h1, h2, h3, h4⟩, h5⟩ := stK_spec (k + 1) l h
    refine ⟨a :: l', ⟨by simp [h1], by simp only [List.length_cons]; omega, h3, fun i u hi hu h0 => ?_⟩, h5⟩
    cases i with
    | zero => exact ⟨hu, fun q => by omega⟩
    | succ i =>
      obtain ⟨g1, g2⟩ := h4 i u (by omega) hu h0
      exact ⟨g1, fun q => g2 (by omega)⟩
theorem stL_spec {ρ : Type} {v : mv} {r : ρ} : ∀ (k : Nat) (ls : List mv) {K : List mv → Option ρ}, stL v k ls K = some r → ∃ ls', (StQ v k ls ls' ∧ nth ls' (k + 1) = some (mC 0)) ∧ K ls' = some r
  | 0, [], K, h => by cases h
  | 0, [_], K, h => by cases h
  | 0, a :: b :: l, K, h => ⟨v :: mC 0 :: l, ⟨⟨rfl, by simp, rfl, fun i u hi hu h0 => by
      cases i with
      | zero => exact absurd rfl hi
      | succ i => cases i with
        | zero => exact absurd (Option.some.inj hu).symm h0
        | succ i => exact ⟨hu, fun q => by omega⟩⟩, rfl⟩, h⟩
  | 1, [], K, h => by cases h
  | 1, [_], K, h => by cases h
  | 1, [_, _], K, h => by cases h
  | 1, a :: b :: b' :: l, K, h => ⟨kl a :: v :: mC 0 :: l, ⟨⟨rfl, by simp, rfl, fun i u hi hu h0 => by
      cases i with
      | zero =>
        obtain ⟨h1, h2⟩ := kl_eq (Option.some.inj hu) h0
        exact ⟨by rw [← h1]; rfl, fun _ => h2⟩
      | succ i => cases i with
        | zero => exact absurd rfl hi
        | succ i => cases i with
          | zero => exact absurd (Option.some.inj hu).symm h0
          | succ i => exact ⟨hu, fun q => by omega⟩⟩, rfl⟩, h⟩
  | k + 2, [], K, h => by cases h
  | k + 2, a :: l, K, h => by
    obtain ⟨l', ⟨⟨h1, h2, h3, h4⟩, h6⟩, h5⟩ := stL_spec (k + 1) l h
    refine ⟨a :: l', ⟨⟨by simp [h1], by simp only [List.length_cons]; omega, h3, fun i u hi hu h0 => ?_⟩, h6⟩, h5⟩
    cases i with
    | zero => exact ⟨hu, fun q => by omega⟩
    | succ i =>
      obtain ⟨g1, g2⟩ := h4 i u (by omega) hu h0
      exact ⟨g1, fun q => g2 (by omega)⟩
theorem mem_nth {α : Type} : ∀ {l : List α} {a : α}, a ∈ l → ∃ k, nth l k = some a
  | [], a, h => by cases h
  | b :: l, a, h => by
    rcases List.mem_cons.mp h with rfl | h
    · exact ⟨0, rfl⟩
    · obtain ⟨k, hk⟩ := mem_nth h
      exact ⟨k + 1, hk⟩
theorem StQ.ok {n : Nat} {v : mv} {k : Nat} {ls ls' : List mv} (hR : StQ v k ls ls') (hv : vOk n v) (hl : ∀ u ∈ ls, vOk n u) : ∀ u ∈ ls', vOk n u := by
  intro u hu
  obtain ⟨i, hi⟩ := mem_nth hu
  by_cases h0 : u = mC 0
  · rw [h0]; trivial
  · by_cases e : i = k
    · subst e
      rw [hR.2.2.1] at hi
      cases hi
      exact hv
    · exact hl _ (nth_mem (hR.2.2.2 i u e hi h0).1)
theorem cat_rV {ad aC : Nat → Nat} {u : mv} (h : ∀ x, u ≠ mL x) : (rV ad aC u).category = 1 := by
  rcases u with x | x | x | x
  · rfl
  · exact absurd rfl (h x)
  · rfl
  · rfl
theorem StQ.has {ad aC : Nat → Nat} {nL : Nat} {la : Array Slot} {v : mv} {k : Nat} {ls ls' : List mv} (hR : StQ v k ls ls') (h : lv_has la nL ((k, rV ad aC v) :: (asc ad aC 0 ls).filter (fun q => !(q.1 == k) && !(q.1 + 1 == k && q.2.category == 2)))) : lv_has la nL (asc ad aC 0 ls') := by
  refine ⟨h.1, h.2.1, fun q hq => ?_⟩
  obtain ⟨i, u, h1, h2, h3⟩ := mem_asc.mp hq
  subst h3
  rw [Nat.zero_add] at *
  by_cases e : i = k
  · subst e
    rw [hR.2.2.1] at h1
    cases h1
    exact h.2.2 _ List.mem_cons_self
  · obtain ⟨g1, g2⟩ := hR.2.2.2 i u e h1 h2
    refine h.2.2 _ (List.mem_cons_of_mem _ (List.mem_filter.mpr ⟨mem_asc.mpr ⟨i, u, g1, h2, by rw [Nat.zero_add]⟩, ?_⟩))
    by_cases e2 : i + 1 = k
    · simp [e, cat_rV (ad := ad) (aC := aC) (g2 e2)]
    · simp [e, e2]
theorem StQ.hasL {ad aC : Nat → Nat} {nL : Nat} {la : Array Slot} {v : mv} {k : Nat} {ls ls' : List mv} (hR : StQ v k ls ls' ∧ nth ls' (k + 1) = some (mC 0)) (h : lv_has la nL ((k, rV ad aC v) :: (asc ad aC 0 ls).filter (fun q => !(q.1 == k) && (!(q.1 == k + 1) && !(q.1 + 1 == k && q.2.category == 2))))) : lv_has la nL (asc ad aC 0 ls') := by
  refine ⟨h.1, h.2.1, fun q hq => ?_⟩
  obtain ⟨i, u, h1, h2, h3⟩ := mem_asc.mp hq
  subst h3
  rw [Nat.zero_add] at *
  by_cases e : i = k
  · subst e
    rw [hR.1.2.2.1] at h1
    cases h1
    exact h.2.2 _ List.mem_cons_self
  · obtain ⟨g1, g2⟩ := hR.1.2.2.2 i u e h1 h2
    have e1 : ¬ i = k + 1 := fun q => by
      subst q
      rw [hR.2] at h1
      exact h2 (Option.some.inj h1).symm
    refine h.2.2 _ (List.mem_cons_of_mem _ (List.mem_filter.mpr ⟨mem_asc.mpr ⟨i, u, g1, h2, by rw [Nat.zero_add]⟩, ?_⟩))
    by_cases e2 : i + 1 = k
    · simp [e, e1, cat_rV (ad := ad) (aC := aC) (g2 e2)]
    · simp [e, e1, e2]
theorem wds_ok {ad aC : Nat → Nat} : ∀ (st : List mv), ((st.map (rV ad aC)).map fun v => v.category).sum = wds st
  | [] => rfl
  | .inl _ :: r => by
    have q := wds_ok (ad := ad) (aC := aC) r
    simp only [List.map_cons, List.sum_cons, wds]
    rw [q]
    show 1 + wds r = wds r + 1
    omega
  | .inr (.inl _) :: r => by
    have q := wds_ok (ad := ad) (aC := aC) r
    simp only [List.map_cons, List.sum_cons, wds]
    rw [q]
    show 2 + wds r = wds r + 2
    omega
  | .inr (.inr (.inl _)) :: r => by
    have q := wds_ok (ad := ad) (aC := aC) r
    simp only [List.map_cons, List.sum_cons, wds]
    rw [q]
    show 1 + wds r = wds r + 1
    omega
  | .inr (.inr (.inr _)) :: r => by
    have q := wds_ok (ad := ad) (aC := aC) r
    simp only [List.map_cons, List.sum_cons, wds]
    rw [q]
    show 1 + wds r = wds r + 1
    omega
theorem few_spec {ρ : Type} {st : List mv} {k : Option ρ} {r : ρ} (h : few st k = some r) : wds st ≤ 8 ∧ k = some r := by
  unfold few at h
  split at h
  · next q => exact ⟨Nat.le_of_ble_eq_true q, h⟩
  · cases h
theorem mObj_spec {S : mSh} {a ci : Nat} (h : mObj S a ci = true) : nth S a = some (.inl ci) := by
  unfold mObj at h
  split at h
  · next c q => rw [q, Nat.eq_of_beq_eq_true h]
  · cases h
theorem mArr_spec {S : mSh} {a ty n : Nat} (h : mArr S a ty = some n) : nth S a = some (.inr (ty, n)) := by
  unfold mArr at h
  split at h
  · next t m q =>
    split at h
    · next q2 =>
      cases h
      rw [q, Nat.eq_of_beq_eq_true q2]
    · cases h
  · cases h
theorem inA_in {i : Int} {n : Nat} (hi : inI i) (h : inA i n) : vp_in (Int32.ofInt i) n ∧ (Int32.ofInt i).toNatClampNeg = i.toNat := by
  refine ⟨vp_in_iff.mpr ?_, ?_⟩
  · rw [i32_of hi]
    exact h
  · show (Int32.ofInt i).toInt.toNat = i.toNat
    rw [i32_of hi]
theorem inA_cast {i : Int} {n : Nat} (h : inA i n) : ((i.toNat : Nat) : Int) = i := by omega
/-- the world with one number changed: an array's -/
theorem Wld_arr {tys : List (ClassId × FieldType)} {ws : va_W} {ad : Nat → Nat} {S : mSh} {r : mRf} {h : mM} {a t n cA : Nat} {i x : Int} (hw : Wld tys ws ad S r h) (ha : nth S a = some (.inr (t, n))) (hcl : ws[a]? = some (ad a, .inl (cA, n, acn ad r h a t))) : Wld tys (ws.set a (ad a, .inl (cA, n, acn ad r (upM h a i x) a t))) ad S r (upM h a i x) := by
  obtain ⟨h1, h2, h3, h4⟩ := hw
  have hl := (List.getElem?_eq_some_iff.mp hcl).1
  refine ⟨by rw [List.length_set]; exact h1, fun b ci hb => ?_, fun b t' n' hb => ?_, h4⟩
  · have hne : b ≠ a := fun q => by subst q; rw [ha] at hb; cases hb
    obtain ⟨f, hf, hc⟩ := h2 b ci hb
    exact ⟨f, hf, by rw [List.getElem?_set_ne (Ne.symm hne), hc, fvs_congr (fun k => upM_ne hne)]⟩
  · by_cases hne : b = a
    · subst hne
      rw [ha] at hb
      cases hb
      obtain ⟨cA', t0, g1, g2, g3⟩ := h3 b _ _ ha
      rw [hcl] at g3
      cases g3
      exact ⟨_, t0, g1, g2, by rw [List.getElem?_set_self hl]⟩
    · obtain ⟨cA', t0, g1, g2, g3⟩ := h3 b t' n' hb
      exact ⟨cA', t0, g1, g2, by rw [List.getElem?_set_ne (Ne.symm hne), g3, acn_congr (fun k => upM_ne hne)]⟩
/-- the world with one number changed: an object's -/
theorem Wld_obj {tys : List (ClassId × FieldType)} {ws : va_W} {ad : Nat → Nat} {S : mSh} {r : mRf} {h : mM} {a ci : Nat} {f : List Nat} {i x : Int} (hw : Wld tys ws ad S r h) (ha : nth S a = some (.inl ci)) (hf : nth FT ci = some f) : Wld tys (ws.set a (ad a, .inr (ci, fvs ad r (upM h a i x) a 0 f))) ad S r (upM h a i x) := by
  obtain ⟨h1, h2, h3, h4⟩ := hw
  have hl : a < ws.length := by rw [h1]; exact nth_lt ha
  refine ⟨by rw [List.length_set]; exact h1, fun b ci' hb => ?_, fun b t' n' hb => ?_, h4⟩
  · by_cases hne : b = a
    · subst hne
      rw [ha] at hb
      cases hb
      exact ⟨f, hf, by rw [List.getElem?_set_self hl]⟩
    · obtain ⟨f', hf', hc⟩ := h2 b ci' hb
      exact ⟨f', hf', by rw [List.getElem?_set_ne (Ne.symm hne), hc, fvs_congr (fun k => upM_ne hne)]⟩
  · have hne : b ≠ a := fun q => by subst q; rw [ha] at hb; cases hb
    obtain ⟨cA', t0, g1, g2, g3⟩ := h3 b t' n' hb
    exact ⟨cA', t0, g1, g2, by rw [List.getElem?_set_ne (Ne.symm hne), g3, acn_congr (fun k => upM_ne hne)]⟩
theorem fit_z {x : Int} (g : 0 ≤ x ∧ x ≤ 1) : fits .boolean (.int (Int32.ofInt x)) = true := by
  have : x = 0 ∨ x = 1 := by omega
  rcases this with rfl | rfl <;> rfl
theorem nar_z {x : Int} (g : 0 ≤ x ∧ x ≤ 1) : narrow .boolean (.int (Int32.ofInt x)) = .int (Int32.ofInt x) := by
  have : x = 0 ∨ x = 1 := by omega
  rcases this with rfl | rfl <;> rfl
theorem nar_b {v : Int} (g : inB v) : vp_nar .byte (Int32.ofInt v) = Int32.ofInt v := by
  rw [vp_nar_byte]
  apply Int32.toInt_inj.mp
  rw [Int8.toInt_toInt32, Int32.toInt_toInt8, i32_of (by omega)]
  exact Int.bmod_eq_of_le (by omega) (by omega)
theorem updI {h : mM} {a : Nat} {i x : Int} {n : Nat} (hi : inA i n) : upd (fun j => Int32.ofInt (h a (j : Int))) i.toNat (Int32.ofInt x) = fun j : Nat => Int32.ofInt (upM h a i x a (j : Int)) := by
  funext q
  unfold upM upd
  by_cases e : q = i.toNat
  · rw [if_pos e, if_pos ⟨rfl, by omega⟩]
  · rw [if_neg e, if_neg (fun z => e (by omega))]
theorem updL {h : mM} {a : Nat} {i x : Int} {n : Nat} (hi : inA i n) : vp_updL (fun j => Int64.ofInt (h a (j : Int))) i.toNat (Int64.ofInt x) = fun j : Nat => Int64.ofInt (upM h a i x a (j : Int)) := by
  funext q
  unfold upM vp_updL
  by_cases e : q = i.toNat
  · rw [if_pos e, if_pos ⟨rfl, by omega⟩]
  · rw [if_neg e, if_neg (fun z => e (by omega))]
section
variable {p : Program} {l : Launch} {e : Env} {Rm : Room} {s : State} {m : MethodId} {args : Array Value} {below : List Frame} {meth : Method} {c : Code} {cc : ByteArray} {D : va_G} {A : Nat → Prop} {tys : List (ClassId × FieldType)} {ad aC : Nat → Nat} {nL cells slots : Nat} {Q : State → Prop} {pcs : List Nat} {S : mSh} {r : mRf} {j nx : Nat} {ls st : List mv} {h : mM}
theorem go_istore (hx : p.tables.exec = Jvm.exec) (hb : c.code = cc) {i : Nat} {x : Int} {ls' : List mv} (hR : StQ (mI x) i ls ls') (hd : Dc cc pcs j (.istore i) 2 nx) (k : Go (fun H locs pc la sv => W p l e Rm s m args below meth c H locs cells slots Q (F0 m pc la sv)) D A tys ad aC nL s pcs S r (nx) (ls') (st) (h)) : Go (fun H locs pc la sv => W p l e Rm s m args below meth c H locs cells slots Q (F0 m pc la sv)) D A tys ad aC nL s pcs S r (j) (ls) (mI x :: st) (h) := by
  intro ws H locs la pc hpc hL hl hs hm hw hP hD hS hv
  obtain ⟨pc0, h1, hdg, h2⟩ := hd
  cases hpc.symm.trans h1
  exact lv_istore hx hb hdg hv (by rw [← hL]; exact hR.2.1) rfl (fun la9 hv9 => k ws H locs la9 _ h2 (hR.1.trans hL) (hR.ok (hs _ List.mem_cons_self) hl) (fun v9 hv9 => hs _ (List.mem_cons_of_mem _ hv9)) hm hw hP hD hS (StQ.has hR hv9))
theorem go_istore_n (hx : p.tables.exec = Jvm.exec) (hb : c.code = cc) {i : Nat} {x : Int} {ls' : List mv} (hR : StQ (mI x) i ls ls') {f : Fin 4} (hf : (f : Nat) = i) (hd : Dc cc pcs j (.istore_n f) 1 nx) (k : Go (fun H locs pc la sv => W p l e Rm s m args below meth c H locs cells slots Q (F0 m pc la sv)) D A tys ad aC nL s pcs S r (nx) (ls') (st) (h)) : Go (fun H locs pc la sv => W p l e Rm s m args below meth c H locs cells slots Q (F0 m pc la sv)) D A tys ad aC nL s pcs S r (j) (ls) (mI x :: st) (h) := by
  intro ws H locs la pc hpc hL hl hs hm hw hP hD hS hv
  obtain ⟨pc0, h1, hdg, h2⟩ := hd
  cases hpc.symm.trans h1
  exact lv_istore_n hx hb hdg hf hv (by rw [← hL]; exact hR.2.1) rfl (fun la9 hv9 => k ws H locs la9 _ h2 (hR.1.trans hL) (hR.ok (hs _ List.mem_cons_self) hl) (fun v9 hv9 => hs _ (List.mem_cons_of_mem _ hv9)) hm hw hP hD hS (StQ.has hR hv9))
theorem go_astore (hx : p.tables.exec = Jvm.exec) (hb : c.code = cc) {i : Nat} {x : Nat} {ls' : List mv} (hR : StQ (mR x) i ls ls') (hd : Dc cc pcs j (.astore i) 2 nx) (k : Go (fun H locs pc la sv => W p l e Rm s m args below meth c H locs cells slots Q (F0 m pc la sv)) D A tys ad aC nL s pcs S r (nx) (ls') (st) (h)) : Go (fun H locs pc la sv => W p l e Rm s m args below meth c H locs cells slots Q (F0 m pc la sv)) D A tys ad aC nL s pcs S r (j) (ls) (mR x :: st) (h) := by
  intro ws H locs la pc hpc hL hl hs hm hw hP hD hS hv
  obtain ⟨pc0, h1, hdg, h2⟩ := hd
  cases hpc.symm.trans h1
  exact lv_astore hx hb hdg hv (by rw [← hL]; exact hR.2.1) rfl (fun la9 hv9 => k ws H locs la9 _ h2 (hR.1.trans hL) (hR.ok (hs _ List.mem_cons_self) hl) (fun v9 hv9 => hs _ (List.mem_cons_of_mem _ hv9)) hm hw hP hD hS (StQ.has hR hv9))
theorem go_astore_n (hx : p.tables.exec = Jvm.exec) (hb : c.code = cc) {i : Nat} {x : Nat} {ls' : List mv} (hR : StQ (mR x) i ls ls') {f : Fin 4} (hf : (f : Nat) = i) (hd : Dc cc pcs j (.astore_n f) 1 nx) (k : Go (fun H locs pc la sv => W p l e Rm s m args below meth c H locs cells slots Q (F0 m pc la sv)) D A tys ad aC nL s pcs S r (nx) (ls') (st) (h)) : Go (fun H locs pc la sv => W p l e Rm s m args below meth c H locs cells slots Q (F0 m pc la sv)) D A tys ad aC nL s pcs S r (j) (ls) (mR x :: st) (h) := by
  intro ws H locs la pc hpc hL hl hs hm hw hP hD hS hv
  obtain ⟨pc0, h1, hdg, h2⟩ := hd
  cases hpc.symm.trans h1
  exact lv_astore_n hx hb hdg hf hv (by rw [← hL]; exact hR.2.1) rfl (fun la9 hv9 => k ws H locs la9 _ h2 (hR.1.trans hL) (hR.ok (hs _ List.mem_cons_self) hl) (fun v9 hv9 => hs _ (List.mem_cons_of_mem _ hv9)) hm hw hP hD hS (StQ.has hR hv9))
theorem go_lstore (hx : p.tables.exec = Jvm.exec) (hb : c.code = cc) {i : Nat} {x : Int} {ls' : List mv} (hR : StQ (mL x) i ls ls' ∧ nth ls' (i + 1) = some (mC 0)) (hd : Dc cc pcs j (.lstore i) 2 nx) (k : Go (fun H locs pc la sv => W p l e Rm s m args below meth c H locs cells slots Q (F0 m pc la sv)) D A tys ad aC nL s pcs S r (nx) (ls') (st) (h)) : Go (fun H locs pc la sv => W p l e Rm s m args below meth c H locs cells slots Q (F0 m pc la sv)) D A tys ad aC nL s pcs S r (j) (ls) (mL x :: st) (h) := by
  intro ws H locs la pc hpc hL hl hs hm hw hP hD hS hv
  obtain ⟨pc0, h1, hdg, h2⟩ := hd
  cases hpc.symm.trans h1
  exact lv_lstore hx hb hdg hv (by have q1 := nth_lt hR.2; have q2 := hR.1.1; omega) rfl (fun la9 hv9 => k ws H locs la9 _ h2 (hR.1.1.trans hL) (hR.1.ok (hs _ List.mem_cons_self) hl) (fun v9 hv9 => hs _ (List.mem_cons_of_mem _ hv9)) hm hw hP hD hS (StQ.hasL hR hv9))
theorem go_lstore_n (hx : p.tables.exec = Jvm.exec) (hb : c.code = cc) {i : Nat} {x : Int} {ls' : List mv} (hR : StQ (mL x) i ls ls' ∧ nth ls' (i + 1) = some (mC 0)) {f : Fin 4} (hf : (f : Nat) = i) (hd : Dc cc pcs j (.lstore_n f) 1 nx) (k : Go (fun H locs pc la sv => W p l e Rm s m args below meth c H locs cells slots Q (F0 m pc la sv)) D A tys ad aC nL s pcs S r (nx) (ls') (st) (h)) : Go (fun H locs pc la sv => W p l e Rm s m args below meth c H locs cells slots Q (F0 m pc la sv)) D A tys ad aC nL s pcs S r (j) (ls) (mL x :: st) (h) := by
  intro ws H locs la pc hpc hL hl hs hm hw hP hD hS hv
  obtain ⟨pc0, h1, hdg, h2⟩ := hd
  cases hpc.symm.trans h1
  exact lv_lstore_n hx hb hdg hf hv (by have q1 := nth_lt hR.2; have q2 := hR.1.1; omega) rfl (fun la9 hv9 => k ws H locs la9 _ h2 (hR.1.1.trans hL) (hR.1.ok (hs _ List.mem_cons_self) hl) (fun v9 hv9 => hs _ (List.mem_cons_of_mem _ hv9)) hm hw hP hD hS (StQ.hasL hR hv9))
theorem go_iinc (hx : p.tables.exec = Jvm.exec) (hb : c.code = cc) {i : Nat} {n x : Int} {ls' : List mv} (hk : nth ls i = some (mI x)) (g : inI (x + n)) (hR : StQ (mI (x + n)) i ls ls') (hd : Dc cc pcs j (.iinc i n) 3 nx) (k : Go (fun H locs pc la sv => W p l e Rm s m args below meth c H locs cells slots Q (F0 m pc la sv)) D A tys ad aC nL s pcs S r (nx) (ls') (st) (h)) : Go (fun H locs pc la sv => W p l e Rm s m args below meth c H locs cells slots Q (F0 m pc la sv)) D A tys ad aC nL s pcs S r (j) (ls) (st) (h) := by
  intro ws H locs la pc hpc hL hl hs hm hw hP hD hS hv
  obtain ⟨pc0, h1, hdg, h2⟩ := hd
  cases hpc.symm.trans h1
  obtain ⟨q9, hq9⟩ := List.getElem?_of_mem (mem_asc (ad := ad) (aC := aC) (i := 0).mpr ⟨i, _, hk, (fun q => nomatch q), rfl⟩)
  rw [Nat.zero_add] at hq9
  exact lv_iinc hx hb hdg hv hq9 (Int32.ofInt_add ..).symm (by rw [← hL]; exact hR.2.1) rfl (fun la9 hv9 => k ws H locs la9 _ h2 (hR.1.trans hL) (hR.ok g hl) hs hm hw hP hD hS (StQ.has hR hv9))
theorem cmp_eq {x y : Int} (hx : inL x) (hy : inL y) : lg_cmp (Int64.ofInt x) (Int64.ofInt y) = Int32.ofInt (if x < y then -1 else if x = y then 0 else 1) := by
  unfold lg_cmp
  by_cases h1 : y < x
  · have h9 : ¬ x < y := by omega
    have h8 : ¬ x = y := by omega
    rw [if_neg h9, if_neg h8]
    simp [(i64_lt hy hx).mpr h1]
  · have g1 : ¬ Int64.ofInt y < Int64.ofInt x := fun q => h1 ((i64_lt hy hx).mp q)
    by_cases h2 : x = y
    · subst h2
      simp
    · have h3 : x < y := by omega
      rw [if_pos h3]
      have g2 : ¬ Int64.ofInt x = Int64.ofInt y := fun q => h2 ((i64_eq hx hy).mp q)
      simp [g1, g2]
theorem go_lcmp_eq (hx : p.tables.exec = Jvm.exec) (hb : c.code = cc) {j1 nx0 : Nat} {x y : Int} {off : Int} {t tg : Nat} (hd0 : Dc cc pcs j .lcmp 1 j1) (hd1 : Dc cc pcs j1 (.ifCond .eq off) 3 nx) (ht : nth pcs t = some tg) (ho : ∀ pc : Nat, nth pcs j1 = some pc → (pc : Int) + off = (tg : Int)) (kt : x = y → Go (fun H locs pc la sv => W p l e Rm s m args below meth c H locs cells slots Q (F0 m pc la sv)) D A tys ad aC nL s pcs S r (t) (ls) (st) (h)) (kf : ¬ x = y → Go (fun H locs pc la sv => W p l e Rm s m args below meth c H locs cells slots Q (F0 m pc la sv)) D A tys ad aC nL s pcs S r (nx) (ls) (st) (h)) : Go (fun H locs pc la sv => W p l e Rm s m args below meth c H locs cells slots Q (F0 m pc la sv)) D A tys ad aC nL s pcs S r (j) (ls) (mL y :: mL x :: st) (h) := by
  have hd := hd0
  intro ws H locs la pc hpc hL hl hs hm hw hP hD hS hv
  obtain ⟨pc0, h1, hdg, h2⟩ := hd
  cases hpc.symm.trans h1
  have hs9 : ∀ v ∈ st, vOk S.length v := fun v9 hv9 => hs _ (List.mem_cons_of_mem _ (List.mem_cons_of_mem _ hv9))
  have hx9 : inL x := hs _ (List.mem_cons_of_mem _ List.mem_cons_self)
  have hy9 : inL y := hs _ List.mem_cons_self
  refine W.lcmp hx hb hdg ?_
  rw [cmp_eq hx9 hy9]
  have k9 : Go (fun H locs pc la sv => W p l e Rm s m args below meth c H locs cells slots Q (F0 m pc la sv)) D A tys ad aC nL s pcs S r (j1) (ls) (mI (if x < y then -1 else if x = y then 0 else 1) :: st) (h) := go_if_eq hx hb hd1 ht ho (fun q => kt (by (repeat' split at q) <;> omega)) (fun q => kf (by (repeat' split at q) <;> omega))
  exact k9 ws H locs la _ h2 hL hl (fun v9 hv9 => by
    rcases List.mem_cons.mp hv9 with rfl | hv9
    · show inI _
      (repeat' split) <;> omega
    · exact hs9 _ hv9) hm hw hP hD hS hv
theorem go_lcmp_ne (hx : p.tables.exec = Jvm.exec) (hb : c.code = cc) {j1 nx0 : Nat} {x y : Int} {off : Int} {t tg : Nat} (hd0 : Dc cc pcs j .lcmp 1 j1) (hd1 : Dc cc pcs j1 (.ifCond .ne off) 3 nx) (ht : nth pcs t = some tg) (ho : ∀ pc : Nat, nth pcs j1 = some pc → (pc : Int) + off = (tg : Int)) (kt : ¬ x = y → Go (fun H locs pc la sv => W p l e Rm s m args below meth c H locs cells slots Q (F0 m pc la sv)) D A tys ad aC nL s pcs S r (t) (ls) (st) (h)) (kf : x = y → Go (fun H locs pc la sv => W p l e Rm s m args below meth c H locs cells slots Q (F0 m pc la sv)) D A tys ad aC nL s pcs S r (nx) (ls) (st) (h)) : Go (fun H locs pc la sv => W p l e Rm s m args below meth c H locs cells slots Q (F0 m pc la sv)) D A tys ad aC nL s pcs S r (j) (ls) (mL y :: mL x :: st) (h) := by
  have hd := hd0
  intro ws H locs la pc hpc hL hl hs hm hw hP hD hS hv
  obtain ⟨pc0, h1, hdg, h2⟩ := hd
  cases hpc.symm.trans h1
  have hs9 : ∀ v ∈ st, vOk S.length v := fun v9 hv9 => hs _ (List.mem_cons_of_mem _ (List.mem_cons_of_mem _ hv9))
  have hx9 : inL x := hs _ (List.mem_cons_of_mem _ List.mem_cons_self)
  have hy9 : inL y := hs _ List.mem_cons_self
  refine W.lcmp hx hb hdg ?_
  rw [cmp_eq hx9 hy9]
  have k9 : Go (fun H locs pc la sv => W p l e Rm s m args below meth c H locs cells slots Q (F0 m pc la sv)) D A tys ad aC nL s pcs S r (j1) (ls) (mI (if x < y then -1 else if x = y then 0 else 1) :: st) (h) := go_if_ne hx hb hd1 ht ho (fun q => kt (by (repeat' split at q) <;> omega)) (fun q => kf (by (repeat' split at q) <;> omega))
  exact k9 ws H locs la _ h2 hL hl (fun v9 hv9 => by
    rcases List.mem_cons.mp hv9 with rfl | hv9
    · show inI _
      (repeat' split) <;> omega
    · exact hs9 _ hv9) hm hw hP hD hS hv
theorem go_lcmp_lt (hx : p.tables.exec = Jvm.exec) (hb : c.code = cc) {j1 nx0 : Nat} {x y : Int} {off : Int} {t tg : Nat} (hd0 : Dc cc pcs j .lcmp 1 j1) (hd1 : Dc cc pcs j1 (.ifCond .lt off) 3 nx) (ht : nth pcs t = some tg) (ho : ∀ pc : Nat, nth pcs j1 = some pc → (pc : Int) + off = (tg : Int)) (kt : x < y → Go (fun H locs pc la sv => W p l e Rm s m args below meth c H locs cells slots Q (F0 m pc la sv)) D A tys ad aC nL s pcs S r (t) (ls) (st) (h)) (kf : ¬ x < y → Go (fun H locs pc la sv => W p l e Rm s m args below meth c H locs cells slots Q (F0 m pc la sv)) D A tys ad aC nL s pcs S r (nx) (ls) (st) (h)) : Go (fun H locs pc la sv => W p l e Rm s m args below meth c H locs cells slots Q (F0 m pc la sv)) D A tys ad aC nL s pcs S r (j) (ls) (mL y :: mL x :: st) (h) := by
  have hd := hd0
  intro ws H locs la pc hpc hL hl hs hm hw hP hD hS hv
  obtain ⟨pc0, h1, hdg, h2⟩ := hd
  cases hpc.symm.trans h1
  have hs9 : ∀ v ∈ st, vOk S.length v := fun v9 hv9 => hs _ (List.mem_cons_of_mem _ (List.mem_cons_of_mem _ hv9))
  have hx9 : inL x := hs _ (List.mem_cons_of_mem _ List.mem_cons_self)
  have hy9 : inL y := hs _ List.mem_cons_self
  refine W.lcmp hx hb hdg ?_
  rw [cmp_eq hx9 hy9]
  have k9 : Go (fun H locs pc la sv => W p l e Rm s m args below meth c H locs cells slots Q (F0 m pc la sv)) D A tys ad aC nL s pcs S r (j1) (ls) (mI (if x < y then -1 else if x = y then 0 else 1) :: st) (h) := go_if_lt hx hb hd1 ht ho (fun q => kt (by (repeat' split at q) <;> omega)) (fun q => kf (by (repeat' split at q) <;> omega))
  exact k9 ws H locs la _ h2 hL hl (fun v9 hv9 => by
    rcases List.mem_cons.mp hv9 with rfl | hv9
    · show inI _
      (repeat' split) <;> omega
    · exact hs9 _ hv9) hm hw hP hD hS hv
theorem go_lcmp_ge (hx : p.tables.exec = Jvm.exec) (hb : c.code = cc) {j1 nx0 : Nat} {x y : Int} {off : Int} {t tg : Nat} (hd0 : Dc cc pcs j .lcmp 1 j1) (hd1 : Dc cc pcs j1 (.ifCond .ge off) 3 nx) (ht : nth pcs t = some tg) (ho : ∀ pc : Nat, nth pcs j1 = some pc → (pc : Int) + off = (tg : Int)) (kt : ¬ x < y → Go (fun H locs pc la sv => W p l e Rm s m args below meth c H locs cells slots Q (F0 m pc la sv)) D A tys ad aC nL s pcs S r (t) (ls) (st) (h)) (kf : x < y → Go (fun H locs pc la sv => W p l e Rm s m args below meth c H locs cells slots Q (F0 m pc la sv)) D A tys ad aC nL s pcs S r (nx) (ls) (st) (h)) : Go (fun H locs pc la sv => W p l e Rm s m args below meth c H locs cells slots Q (F0 m pc la sv)) D A tys ad aC nL s pcs S r (j) (ls) (mL y :: mL x :: st) (h) := by
  have hd := hd0
  intro ws H locs la pc hpc hL hl hs hm hw hP hD hS hv
  obtain ⟨pc0, h1, hdg, h2⟩ := hd
  cases hpc.symm.trans h1
  have hs9 : ∀ v ∈ st, vOk S.length v := fun v9 hv9 => hs _ (List.mem_cons_of_mem _ (List.mem_cons_of_mem _ hv9))
  have hx9 : inL x := hs _ (List.mem_cons_of_mem _ List.mem_cons_self)
  have hy9 : inL y := hs _ List.mem_cons_self
  refine W.lcmp hx hb hdg ?_
  rw [cmp_eq hx9 hy9]
  have k9 : Go (fun H locs pc la sv => W p l e Rm s m args below meth c H locs cells slots Q (F0 m pc la sv)) D A tys ad aC nL s pcs S r (j1) (ls) (mI (if x < y then -1 else if x = y then 0 else 1) :: st) (h) := go_if_ge hx hb hd1 ht ho (fun q => kt (by (repeat' split at q) <;> omega)) (fun q => kf (by (repeat' split at q) <;> omega))
  exact k9 ws H locs la _ h2 hL hl (fun v9 hv9 => by
    rcases List.mem_cons.mp hv9 with rfl | hv9
    · show inI _
      (repeat' split) <;> omega
    · exact hs9 _ hv9) hm hw hP hD hS hv
theorem go_lcmp_gt (hx : p.tables.exec = Jvm.exec) (hb : c.code = cc) {j1 nx0 : Nat} {x y : Int} {off : Int} {t tg : Nat} (hd0 : Dc cc pcs j .lcmp 1 j1) (hd1 : Dc cc pcs j1 (.ifCond .gt off) 3 nx) (ht : nth pcs t = some tg) (ho : ∀ pc : Nat, nth pcs j1 = some pc → (pc : Int) + off = (tg : Int)) (kt : y < x → Go (fun H locs pc la sv => W p l e Rm s m args below meth c H locs cells slots Q (F0 m pc la sv)) D A tys ad aC nL s pcs S r (t) (ls) (st) (h)) (kf : ¬ y < x → Go (fun H locs pc la sv => W p l e Rm s m args below meth c H locs cells slots Q (F0 m pc la sv)) D A tys ad aC nL s pcs S r (nx) (ls) (st) (h)) : Go (fun H locs pc la sv => W p l e Rm s m args below meth c H locs cells slots Q (F0 m pc la sv)) D A tys ad aC nL s pcs S r (j) (ls) (mL y :: mL x :: st) (h) := by
  have hd := hd0
  intro ws H locs la pc hpc hL hl hs hm hw hP hD hS hv
  obtain ⟨pc0, h1, hdg, h2⟩ := hd
  cases hpc.symm.trans h1
  have hs9 : ∀ v ∈ st, vOk S.length v := fun v9 hv9 => hs _ (List.mem_cons_of_mem _ (List.mem_cons_of_mem _ hv9))
  have hx9 : inL x := hs _ (List.mem_cons_of_mem _ List.mem_cons_self)
  have hy9 : inL y := hs _ List.mem_cons_self
  refine W.lcmp hx hb hdg ?_
  rw [cmp_eq hx9 hy9]
  have k9 : Go (fun H locs pc la sv => W p l e Rm s m args below meth c H locs cells slots Q (F0 m pc la sv)) D A tys ad aC nL s pcs S r (j1) (ls) (mI (if x < y then -1 else if x = y then 0 else 1) :: st) (h) := go_if_gt hx hb hd1 ht ho (fun q => kt (by (repeat' split at q) <;> omega)) (fun q => kf (by (repeat' split at q) <;> omega))
  exact k9 ws H locs la _ h2 hL hl (fun v9 hv9 => by
    rcases List.mem_cons.mp hv9 with rfl | hv9
    · show inI _
      (repeat' split) <;> omega
    · exact hs9 _ hv9) hm hw hP hD hS hv
theorem go_lcmp_le (hx : p.tables.exec = Jvm.exec) (hb : c.code = cc) {j1 nx0 : Nat} {x y : Int} {off : Int} {t tg : Nat} (hd0 : Dc cc pcs j .lcmp 1 j1) (hd1 : Dc cc pcs j1 (.ifCond .le off) 3 nx) (ht : nth pcs t = some tg) (ho : ∀ pc : Nat, nth pcs j1 = some pc → (pc : Int) + off = (tg : Int)) (kt : ¬ y < x → Go (fun H locs pc la sv => W p l e Rm s m args below meth c H locs cells slots Q (F0 m pc la sv)) D A tys ad aC nL s pcs S r (t) (ls) (st) (h)) (kf : y < x → Go (fun H locs pc la sv => W p l e Rm s m args below meth c H locs cells slots Q (F0 m pc la sv)) D A tys ad aC nL s pcs S r (nx) (ls) (st) (h)) : Go (fun H locs pc la sv => W p l e Rm s m args below meth c H locs cells slots Q (F0 m pc la sv)) D A tys ad aC nL s pcs S r (j) (ls) (mL y :: mL x :: st) (h) := by
  have hd := hd0
  intro ws H locs la pc hpc hL hl hs hm hw hP hD hS hv
  obtain ⟨pc0, h1, hdg, h2⟩ := hd
  cases hpc.symm.trans h1
  have hs9 : ∀ v ∈ st, vOk S.length v := fun v9 hv9 => hs _ (List.mem_cons_of_mem _ (List.mem_cons_of_mem _ hv9))
  have hx9 : inL x := hs _ (List.mem_cons_of_mem _ List.mem_cons_self)
  have hy9 : inL y := hs _ List.mem_cons_self
  refine W.lcmp hx hb hdg ?_
  rw [cmp_eq hx9 hy9]
  have k9 : Go (fun H locs pc la sv => W p l e Rm s m args below meth c H locs cells slots Q (F0 m pc la sv)) D A tys ad aC nL s pcs S r (j1) (ls) (mI (if x < y then -1 else if x = y then 0 else 1) :: st) (h) := go_if_le hx hb hd1 ht ho (fun q => kt (by (repeat' split at q) <;> omega)) (fun q => kf (by (repeat' split at q) <;> omega))
  exact k9 ws H locs la _ h2 hL hl (fun v9 hv9 => by
    rcases List.mem_cons.mp hv9 with rfl | hv9
    · show inI _
      (repeat' split) <;> omega
    · exact hs9 _ hv9) hm hw hP hD hS hv
theorem go_getI (hx : p.tables.exec = Jvm.exec) (hb : c.code = cc) {own ref C : String} {T : u_T} {N ci i kf ty : Nat} {f : List Nat} {a : Nat} (hts : ∀ w ∈ lw_g, w.before args s = true) (hin : ∀ w ∈ u_ws C T N, w ∈ lw_g) (hown : s.vm.findClass own = some m.cls) (hK : va_K D vwCl tys s) (hc : vwCl[ci]? = some (C, T, N)) (hf : nth FT ci = some f) (ht : nth f kf = some ty) (hkN : kf < N) (hlink : (Cond.fieldLink own i ref (T kf).2.1 (T kf).2.2.1).before args s = true) (hsame : ref = (T kf).1) (ho : nth S a = some (.inl ci)) (h0 : ty ≠ 1 ∧ ty ≠ 2) (hd : Dc cc pcs j (.getfield i) 3 nx) (k : Go (fun H locs pc la sv => W p l e Rm s m args below meth c H locs cells slots Q (F0 m pc la sv)) D A tys ad aC nL s pcs S r (nx) (ls) (mI (h a (kf : Int)) :: st) (h)) : Go (fun H locs pc la sv => W p l e Rm s m args below meth c H locs cells slots Q (F0 m pc la sv)) D A tys ad aC nL s pcs S r (j) (ls) (mR a :: st) (h) := by
  intro ws H locs la pc hpc hL hl hs hm hw hP hD hS hv
  obtain ⟨pc0, h1, hdg, h2⟩ := hd
  cases hpc.symm.trans h1
  obtain ⟨f9, hf9, hc9⟩ := hw.2.1 a ci ho
  cases hf.symm.trans hf9
  exact va_get (D := D) (v := .int (Int32.ofInt (h a (kf : Int)))) hx hb hts hin hown hK hP a hc9 hc kf hkN hlink (fun x q => by rw [hsame]; exact q) (by rw [fvs_get ht, Nat.zero_add]; unfold fvl; split <;> simp_all) hdg (k ws H locs la _ h2 hL hl (fun v9 hv9 => by rcases List.mem_cons.mp hv9 with rfl | hv9; exact (hm.2.1 a kf (by unfold isL; rw [ho]; simp only [hf, Int.toNat_natCast, ht]; split <;> simp_all)); exact hs _ (List.mem_cons_of_mem _ hv9)) hm hw hP hD hS hv)
theorem go_getL (hx : p.tables.exec = Jvm.exec) (hb : c.code = cc) {own ref C : String} {T : u_T} {N ci i kf ty : Nat} {f : List Nat} {a : Nat} (hts : ∀ w ∈ lw_g, w.before args s = true) (hin : ∀ w ∈ u_ws C T N, w ∈ lw_g) (hown : s.vm.findClass own = some m.cls) (hK : va_K D vwCl tys s) (hc : vwCl[ci]? = some (C, T, N)) (hf : nth FT ci = some f) (ht : nth f kf = some ty) (hkN : kf < N) (hlink : (Cond.fieldLink own i ref (T kf).2.1 (T kf).2.2.1).before args s = true) (hsame : ref = (T kf).1) (ho : nth S a = some (.inl ci)) (h0 : ty = 1) (hd : Dc cc pcs j (.getfield i) 3 nx) (k : Go (fun H locs pc la sv => W p l e Rm s m args below meth c H locs cells slots Q (F0 m pc la sv)) D A tys ad aC nL s pcs S r (nx) (ls) (mL (h a (kf : Int)) :: st) (h)) : Go (fun H locs pc la sv => W p l e Rm s m args below meth c H locs cells slots Q (F0 m pc la sv)) D A tys ad aC nL s pcs S r (j) (ls) (mR a :: st) (h) := by
  intro ws H locs la pc hpc hL hl hs hm hw hP hD hS hv
  obtain ⟨pc0, h1, hdg, h2⟩ := hd
  cases hpc.symm.trans h1
  obtain ⟨f9, hf9, hc9⟩ := hw.2.1 a ci ho
  cases hf.symm.trans hf9
  exact va_get (D := D) (v := .long (Int64.ofInt (h a (kf : Int)))) hx hb hts hin hown hK hP a hc9 hc kf hkN hlink (fun x q => by rw [hsame]; exact q) (by rw [fvs_get ht, Nat.zero_add, h0]; rfl) hdg (k ws H locs la _ h2 hL hl (fun v9 hv9 => by rcases List.mem_cons.mp hv9 with rfl | hv9; exact (hm.1 a kf); exact hs _ (List.mem_cons_of_mem _ hv9)) hm hw hP hD hS hv)
theorem go_getR (hx : p.tables.exec = Jvm.exec) (hb : c.code = cc) {own ref C : String} {T : u_T} {N ci i kf ty : Nat} {f : List Nat} {a : Nat} (hts : ∀ w ∈ lw_g, w.before args s = true) (hin : ∀ w ∈ u_ws C T N, w ∈ lw_g) (hown : s.vm.findClass own = some m.cls) (hK : va_K D vwCl tys s) (hc : vwCl[ci]? = some (C, T, N)) (hf : nth FT ci = some f) (ht : nth f kf = some ty) (hkN : kf < N) (hlink : (Cond.fieldLink own i ref (T kf).2.1 (T kf).2.2.1).before args s = true) (hsame : ref = (T kf).1) (ho : nth S a = some (.inl ci)) {b : Nat} (h0 : ty = 2) (hb0 : rfAt r a kf = some b) (hd : Dc cc pcs j (.getfield i) 3 nx) (k : Go (fun H locs pc la sv => W p l e Rm s m args below meth c H locs cells slots Q (F0 m pc la sv)) D A tys ad aC nL s pcs S r (nx) (ls) (mR b :: st) (h)) : Go (fun H locs pc la sv => W p l e Rm s m args below meth c H locs cells slots Q (F0 m pc la sv)) D A tys ad aC nL s pcs S r (j) (ls) (mR a :: st) (h) := by
  intro ws H locs la pc hpc hL hl hs hm hw hP hD hS hv
  obtain ⟨pc0, h1, hdg, h2⟩ := hd
  cases hpc.symm.trans h1
  obtain ⟨f9, hf9, hc9⟩ := hw.2.1 a ci ho
  cases hf.symm.trans hf9
  exact va_get (D := D) (v := .ref (ad b)) hx hb hts hin hown hK hP a hc9 hc kf hkN hlink (fun x q => by rw [hsame]; exact q) (by rw [fvs_get ht, Nat.zero_add, h0]; show some (va_rf ((rfAt r a kf).map ad)) = _; rw [hb0]; rfl) hdg (k ws H locs la _ h2 hL hl (fun v9 hv9 => by rcases List.mem_cons.mp hv9 with rfl | hv9; exact (hw.2.2.2 a kf b hb0); exact hs _ (List.mem_cons_of_mem _ hv9)) hm hw hP hD hS hv)
theorem go_putI (hx : p.tables.exec = Jvm.exec) (hb : c.code = cc) {x : Int} {own ref C : String} {T : u_T} {N ci i kf ty : Nat} {f : List Nat} {a : Nat} (hts : ∀ w ∈ lw_g, w.before args s = true) (hin : ∀ w ∈ u_ws C T N, w ∈ lw_g) (hown : s.vm.findClass own = some m.cls) (hK : va_K D vwCl tys s) (hc : vwCl[ci]? = some (C, T, N)) (hf : nth FT ci = some f) (ht : nth f kf = some ty) (hkN : kf < N) (hlink : (Cond.fieldLink own i ref (T kf).2.1 (T kf).2.2.1).before args s = true) (hsame : ref = (T kf).1) (ho : nth S a = some (.inl ci)) (ty0 : Nat → FieldType) (hty : ∀ k, k < N → parseFieldDescriptor (T k).2.2.1 = some (ty0 k)) (hnm : ∀ a, a < N → ∀ b, b < N → a ≠ b → (T a).2.1 ≠ (T b).2.1) (hfin : (T kf).2.2.2 = false) (h0 : ty = 0) (h00 : ty0 kf = .int) (hd : Dc cc pcs j (.putfield i) 3 nx) (k : Go (fun H locs pc la sv => W p l e Rm s m args below meth c H locs cells slots Q (F0 m pc la sv)) D A tys ad aC nL s pcs S r (nx) (ls) (st) (upM h a (kf : Int) x)) : Go (fun H locs pc la sv => W p l e Rm s m args below meth c H locs cells slots Q (F0 m pc la sv)) D A tys ad aC nL s pcs S r (j) (ls) (mI x :: mR a :: st) (h) := by
  intro ws H locs la pc hpc hL hl hs hm hw hP hD hS hv
  obtain ⟨pc0, h1, hdg, h2⟩ := hd
  cases hpc.symm.trans h1
  obtain ⟨f9, hf9, hc9⟩ := hw.2.1 a ci ho
  cases hf.symm.trans hf9
  have h9 : inI x := hs _ List.mem_cons_self
  have e9 := fvs_set (ad := ad) (r := r) (h := h) (a := a) (x := x) (j := kf) (i := 0) ht (by rw [h0]; decide) (Nat.zero_add kf).symm
  rw [if_neg (by rw [h0]; decide)] at e9
  refine va_put (D := D) (v := .int (Int32.ofInt x)) (ty := .int) hx hb hts hin ty0 hty hnm hown hK hP hD hS a hc9 hc kf hkN hlink (fun x q => by rw [hsame]; exact q) hfin (by rw [hty kf hkN, h00]) rfl rfl (by rw [fvs_len]; exact nth_lt ht) hdg (fun H1 locs1 hP1 hD1 hS1 => ?_)
  rw [← e9] at hP1 hD1
  exact k _ H1 locs1 la _ h2 hL hl (fun v9 hv9 => hs _ (List.mem_cons_of_mem _ (List.mem_cons_of_mem _ hv9))) (mOk_up hm (nth_lt ho) (inL_of h9) (fun _ => h9)) (Wld_obj hw ho hf) hP1 hD1 hS1 hv
theorem go_putL (hx : p.tables.exec = Jvm.exec) (hb : c.code = cc) {x : Int} {own ref C : String} {T : u_T} {N ci i kf ty : Nat} {f : List Nat} {a : Nat} (hts : ∀ w ∈ lw_g, w.before args s = true) (hin : ∀ w ∈ u_ws C T N, w ∈ lw_g) (hown : s.vm.findClass own = some m.cls) (hK : va_K D vwCl tys s) (hc : vwCl[ci]? = some (C, T, N)) (hf : nth FT ci = some f) (ht : nth f kf = some ty) (hkN : kf < N) (hlink : (Cond.fieldLink own i ref (T kf).2.1 (T kf).2.2.1).before args s = true) (hsame : ref = (T kf).1) (ho : nth S a = some (.inl ci)) (ty0 : Nat → FieldType) (hty : ∀ k, k < N → parseFieldDescriptor (T k).2.2.1 = some (ty0 k)) (hnm : ∀ a, a < N → ∀ b, b < N → a ≠ b → (T a).2.1 ≠ (T b).2.1) (hfin : (T kf).2.2.2 = false) (h0 : ty = 1) (h00 : ty0 kf = .long) (hd : Dc cc pcs j (.putfield i) 3 nx) (k : Go (fun H locs pc la sv => W p l e Rm s m args below meth c H locs cells slots Q (F0 m pc la sv)) D A tys ad aC nL s pcs S r (nx) (ls) (st) (upM h a (kf : Int) x)) : Go (fun H locs pc la sv => W p l e Rm s m args below meth c H locs cells slots Q (F0 m pc la sv)) D A tys ad aC nL s pcs S r (j) (ls) (mL x :: mR a :: st) (h) := by
  intro ws H locs la pc hpc hL hl hs hm hw hP hD hS hv
  obtain ⟨pc0, h1, hdg, h2⟩ := hd
  cases hpc.symm.trans h1
  obtain ⟨f9, hf9, hc9⟩ := hw.2.1 a ci ho
  cases hf.symm.trans hf9
  have h9 : inL x := hs _ List.mem_cons_self
  have e9 := fvs_set (ad := ad) (r := r) (h := h) (a := a) (x := x) (j := kf) (i := 0) ht (by rw [h0]; decide) (Nat.zero_add kf).symm
  rw [if_pos h0] at e9
  refine va_put (D := D) (v := .long (Int64.ofInt x)) (ty := .long) hx hb hts hin ty0 hty hnm hown hK hP hD hS a hc9 hc kf hkN hlink (fun x q => by rw [hsame]; exact q) hfin (by rw [hty kf hkN, h00]) rfl rfl (by rw [fvs_len]; exact nth_lt ht) hdg (fun H1 locs1 hP1 hD1 hS1 => ?_)
  rw [← e9] at hP1 hD1
  exact k _ H1 locs1 la _ h2 hL hl (fun v9 hv9 => hs _ (List.mem_cons_of_mem _ (List.mem_cons_of_mem _ hv9))) (mOk_up hm (nth_lt ho) h9 (fun q => by exfalso; revert q; unfold isL; rw [ho]; simp [hf, ht, h0])) (Wld_obj hw ho hf) hP1 hD1 hS1 hv
theorem go_putZ (hx : p.tables.exec = Jvm.exec) (hb : c.code = cc) {x : Int} {own ref C : String} {T : u_T} {N ci i kf ty : Nat} {f : List Nat} {a : Nat} (hts : ∀ w ∈ lw_g, w.before args s = true) (hin : ∀ w ∈ u_ws C T N, w ∈ lw_g) (hown : s.vm.findClass own = some m.cls) (hK : va_K D vwCl tys s) (hc : vwCl[ci]? = some (C, T, N)) (hf : nth FT ci = some f) (ht : nth f kf = some ty) (hkN : kf < N) (hlink : (Cond.fieldLink own i ref (T kf).2.1 (T kf).2.2.1).before args s = true) (hsame : ref = (T kf).1) (ho : nth S a = some (.inl ci)) (ty0 : Nat → FieldType) (hty : ∀ k, k < N → parseFieldDescriptor (T k).2.2.1 = some (ty0 k)) (hnm : ∀ a, a < N → ∀ b, b < N → a ≠ b → (T a).2.1 ≠ (T b).2.1) (hfin : (T kf).2.2.2 = false) (h0 : ty = 3) (h00 : ty0 kf = .boolean) (g : 0 ≤ x ∧ x ≤ 1) (hd : Dc cc pcs j (.putfield i) 3 nx) (k : Go (fun H locs pc la sv => W p l e Rm s m args below meth c H locs cells slots Q (F0 m pc la sv)) D A tys ad aC nL s pcs S r (nx) (ls) (st) (upM h a (kf : Int) x)) : Go (fun H locs pc la sv => W p l e Rm s m args below meth c H locs cells slots Q (F0 m pc la sv)) D A tys ad aC nL s pcs S r (j) (ls) (mI x :: mR a :: st) (h) := by
  intro ws H locs la pc hpc hL hl hs hm hw hP hD hS hv
  obtain ⟨pc0, h1, hdg, h2⟩ := hd
  cases hpc.symm.trans h1
  obtain ⟨f9, hf9, hc9⟩ := hw.2.1 a ci ho
  cases hf.symm.trans hf9
  have h9 : inI x := hs _ List.mem_cons_self
  have e9 := fvs_set (ad := ad) (r := r) (h := h) (a := a) (x := x) (j := kf) (i := 0) ht (by rw [h0]; decide) (Nat.zero_add kf).symm
  rw [if_neg (by rw [h0]; decide)] at e9
  refine va_put (D := D) (v := .int (Int32.ofInt x)) (ty := .boolean) hx hb hts hin ty0 hty hnm hown hK hP hD hS a hc9 hc kf hkN hlink (fun x q => by rw [hsame]; exact q) hfin (by rw [hty kf hkN, h00]) (nar_z g) (fit_z g) (by rw [fvs_len]; exact nth_lt ht) hdg (fun H1 locs1 hP1 hD1 hS1 => ?_)
  rw [← e9] at hP1 hD1
  exact k _ H1 locs1 la _ h2 hL hl (fun v9 hv9 => hs _ (List.mem_cons_of_mem _ (List.mem_cons_of_mem _ hv9))) (mOk_up hm (nth_lt ho) (inL_of h9) (fun _ => h9)) (Wld_obj hw ho hf) hP1 hD1 hS1 hv
theorem go_iaload (hx : p.tables.exec = Jvm.exec) (hb : c.code = cc) {x : Int} {a n : Nat} (hK : va_K D vwCl tys s) (ho : nth S a = some (.inr (0, n))) (g : inA x n) (hd : Dc cc pcs j .iaload 1 nx) (k : Go (fun H locs pc la sv => W p l e Rm s m args below meth c H locs cells slots Q (F0 m pc la sv)) D A tys ad aC nL s pcs S r (nx) (ls) (mI (h a x) :: st) (h)) : Go (fun H locs pc la sv => W p l e Rm s m args below meth c H locs cells slots Q (F0 m pc la sv)) D A tys ad aC nL s pcs S r (j) (ls) (mI x :: mR a :: st) (h) := by
  intro ws H locs la pc hpc hL hl hs hm hw hP hD hS hv
  obtain ⟨pc0, h1, hdg, h2⟩ := hd
  cases hpc.symm.trans h1
  obtain ⟨cA, t0, g1, g2, g3⟩ := hw.2.2.1 a _ _ ho
  obtain ⟨i1, i2⟩ := inA_in (hs _ List.mem_cons_self) g
  have k9 := k ws H locs la _ h2 hL hl (fun v9 hv9 => by rcases List.mem_cons.mp hv9 with rfl | hv9; exact (hm.2.1 a x (by unfold isL; rw [ho]; rfl)); exact hs _ (List.mem_cons_of_mem _ (List.mem_cons_of_mem _ hv9))) hm hw hP hD hS hv
  refine va_iald hx hb hK hP a t0 g3 g1 i1 hdg ?_
  rw [i2, inA_cast g]
  exact k9
theorem go_laload (hx : p.tables.exec = Jvm.exec) (hb : c.code = cc) {x : Int} {a n : Nat} (hK : va_K D vwCl tys s) (ho : nth S a = some (.inr (1, n))) (g : inA x n) (hd : Dc cc pcs j .laload 1 nx) (k : Go (fun H locs pc la sv => W p l e Rm s m args below meth c H locs cells slots Q (F0 m pc la sv)) D A tys ad aC nL s pcs S r (nx) (ls) (mL (h a x) :: st) (h)) : Go (fun H locs pc la sv => W p l e Rm s m args below meth c H locs cells slots Q (F0 m pc la sv)) D A tys ad aC nL s pcs S r (j) (ls) (mI x :: mR a :: st) (h) := by
  intro ws H locs la pc hpc hL hl hs hm hw hP hD hS hv
  obtain ⟨pc0, h1, hdg, h2⟩ := hd
  cases hpc.symm.trans h1
  obtain ⟨cA, t0, g1, g2, g3⟩ := hw.2.2.1 a _ _ ho
  obtain ⟨i1, i2⟩ := inA_in (hs _ List.mem_cons_self) g
  have k9 := k ws H locs la _ h2 hL hl (fun v9 hv9 => by rcases List.mem_cons.mp hv9 with rfl | hv9; exact (hm.1 a x); exact hs _ (List.mem_cons_of_mem _ (List.mem_cons_of_mem _ hv9))) hm hw hP hD hS hv
  refine va_lald hx hb hK hP a t0 g3 g1 i1 hdg ?_
  rw [i2, inA_cast g]
  exact k9
theorem go_baload (hx : p.tables.exec = Jvm.exec) (hb : c.code = cc) {x : Int} {a n : Nat} (hK : va_K D vwCl tys s) (ho : nth S a = some (.inr (2, n))) (g : inA x n) (hd : Dc cc pcs j .baload 1 nx) (k : Go (fun H locs pc la sv => W p l e Rm s m args below meth c H locs cells slots Q (F0 m pc la sv)) D A tys ad aC nL s pcs S r (nx) (ls) (mI (h a x) :: st) (h)) : Go (fun H locs pc la sv => W p l e Rm s m args below meth c H locs cells slots Q (F0 m pc la sv)) D A tys ad aC nL s pcs S r (j) (ls) (mI x :: mR a :: st) (h) := by
  intro ws H locs la pc hpc hL hl hs hm hw hP hD hS hv
  obtain ⟨pc0, h1, hdg, h2⟩ := hd
  cases hpc.symm.trans h1
  obtain ⟨cA, t0, g1, g2, g3⟩ := hw.2.2.1 a _ _ ho
  obtain ⟨i1, i2⟩ := inA_in (hs _ List.mem_cons_self) g
  have k9 := k ws H locs la _ h2 hL hl (fun v9 hv9 => by rcases List.mem_cons.mp hv9 with rfl | hv9; exact (hm.2.1 a x (by unfold isL; rw [ho]; rfl)); exact hs _ (List.mem_cons_of_mem _ (List.mem_cons_of_mem _ hv9))) hm hw hP hD hS hv
  refine va_bald hx hb hK hP a t0 g3 g1 i1 hdg ?_
  rw [i2, inA_cast g]
  exact k9
theorem go_iastore (hx : p.tables.exec = Jvm.exec) (hb : c.code = cc) {v x : Int} {a n : Nat} (hK : va_K D vwCl tys s) (ho : nth S a = some (.inr (0, n))) (g : inA x n)  (hd : Dc cc pcs j .iastore 1 nx) (k : Go (fun H locs pc la sv => W p l e Rm s m args below meth c H locs cells slots Q (F0 m pc la sv)) D A tys ad aC nL s pcs S r (nx) (ls) (st) (upM h a x v)) : Go (fun H locs pc la sv => W p l e Rm s m args below meth c H locs cells slots Q (F0 m pc la sv)) D A tys ad aC nL s pcs S r (j) (ls) (mI v :: mI x :: mR a :: st) (h) := by
  intro ws H locs la pc hpc hL hl hs hm hw hP hD hS hv
  obtain ⟨pc0, h1, hdg, h2⟩ := hd
  cases hpc.symm.trans h1
  obtain ⟨cA, t0, g1, g2', g3⟩ := hw.2.2.1 a _ _ ho
  have h9 : inI v := hs _ List.mem_cons_self
  obtain ⟨i1, i2⟩ := inA_in (hs _ (List.mem_cons_of_mem _ List.mem_cons_self)) g
  have e9 := updI (h := h) (a := a) (x := v) g
  refine va_iast hx hb hK hP hD hS a t0 g3 g1 i1 hdg (fun H1 locs1 hP1 hD1 hS1 => ?_)
  rw [i2, e9] at hP1 hD1
  exact k _ H1 locs1 la _ h2 hL hl (fun v9 hv9 => hs _ (List.mem_cons_of_mem _ (List.mem_cons_of_mem _ (List.mem_cons_of_mem _ hv9)))) (mOk_up hm (nth_lt ho) (inL_of h9) (fun _ => h9)) (Wld_arr hw ho g3) hP1 hD1 hS1 hv
theorem go_lastore (hx : p.tables.exec = Jvm.exec) (hb : c.code = cc) {v x : Int} {a n : Nat} (hK : va_K D vwCl tys s) (ho : nth S a = some (.inr (1, n))) (g : inA x n)  (hd : Dc cc pcs j .lastore 1 nx) (k : Go (fun H locs pc la sv => W p l e Rm s m args below meth c H locs cells slots Q (F0 m pc la sv)) D A tys ad aC nL s pcs S r (nx) (ls) (st) (upM h a x v)) : Go (fun H locs pc la sv => W p l e Rm s m args below meth c H locs cells slots Q (F0 m pc la sv)) D A tys ad aC nL s pcs S r (j) (ls) (mL v :: mI x :: mR a :: st) (h) := by
  intro ws H locs la pc hpc hL hl hs hm hw hP hD hS hv
  obtain ⟨pc0, h1, hdg, h2⟩ := hd
  cases hpc.symm.trans h1
  obtain ⟨cA, t0, g1, g2', g3⟩ := hw.2.2.1 a _ _ ho
  have h9 : inL v := hs _ List.mem_cons_self
  obtain ⟨i1, i2⟩ := inA_in (hs _ (List.mem_cons_of_mem _ List.mem_cons_self)) g
  have e9 := updL (h := h) (a := a) (x := v) g
  refine va_last hx hb hK hP hD hS a t0 g3 g1 i1 hdg (fun H1 locs1 hP1 hD1 hS1 => ?_)
  rw [i2, e9] at hP1 hD1
  exact k _ H1 locs1 la _ h2 hL hl (fun v9 hv9 => hs _ (List.mem_cons_of_mem _ (List.mem_cons_of_mem _ (List.mem_cons_of_mem _ hv9)))) (mOk_up hm (nth_lt ho) h9 (fun q => by exfalso; revert q; unfold isL; rw [ho]; simp)) (Wld_arr hw ho g3) hP1 hD1 hS1 hv
theorem go_bastore (hx : p.tables.exec = Jvm.exec) (hb : c.code = cc) {v x : Int} {a n : Nat} (hK : va_K D vwCl tys s) (ho : nth S a = some (.inr (2, n))) (g : inA x n) (g2 : inB v) (hd : Dc cc pcs j .bastore 1 nx) (k : Go (fun H locs pc la sv => W p l e Rm s m args below meth c H locs cells slots Q (F0 m pc la sv)) D A tys ad aC nL s pcs S r (nx) (ls) (st) (upM h a x v)) : Go (fun H locs pc la sv => W p l e Rm s m args below meth c H locs cells slots Q (F0 m pc la sv)) D A tys ad aC nL s pcs S r (j) (ls) (mI v :: mI x :: mR a :: st) (h) := by
  intro ws H locs la pc hpc hL hl hs hm hw hP hD hS hv
  obtain ⟨pc0, h1, hdg, h2⟩ := hd
  cases hpc.symm.trans h1
  obtain ⟨cA, t0, g1, g2', g3⟩ := hw.2.2.1 a _ _ ho
  have h9 : inI v := hs _ List.mem_cons_self
  obtain ⟨i1, i2⟩ := inA_in (hs _ (List.mem_cons_of_mem _ List.mem_cons_self)) g
  have e9 := updI (h := h) (a := a) (x := v) g
  have n9 : vp_nar .byte (Int32.ofInt v) = Int32.ofInt v := nar_b g2
  refine va_bast hx hb hK hP hD hS a t0 g3 g1 i1 hdg (fun H1 locs1 hP1 hD1 hS1 => ?_)
  rw [i2, n9, e9] at hP1 hD1
  exact k _ H1 locs1 la _ h2 hL hl (fun v9 hv9 => hs _ (List.mem_cons_of_mem _ (List.mem_cons_of_mem _ (List.mem_cons_of_mem _ hv9)))) (mOk_up hm (nth_lt ho) (inL_of h9) (fun _ => h9)) (Wld_arr hw ho g3) hP1 hD1 hS1 hv
theorem go_aaload (hx : p.tables.exec = Jvm.exec) (hb : c.code = cc) {x : Int} {a n b t : Nat} {Cn : String} (hK : va_K D vwCl tys s) (ht : aty t = .object Cn) (h3 : 3 < t) (ho : nth S a = some (.inr (t, n))) (hb0 : rfAt r a x.toNat = some b) (g : inA x n) (hd : Dc cc pcs j .aaload 1 nx) (k : Go (fun H locs pc la sv => W p l e Rm s m args below meth c H locs cells slots Q (F0 m pc la sv)) D A tys ad aC nL s pcs S r (nx) (ls) (mR b :: st) (h)) : Go (fun H locs pc la sv => W p l e Rm s m args below meth c H locs cells slots Q (F0 m pc la sv)) D A tys ad aC nL s pcs S r (j) (ls) (mI x :: mR a :: st) (h) := by
  intro ws H locs la pc hpc hL hl hs hm hw hP hD hS hv
  obtain ⟨pc0, h1, hdg, h2⟩ := hd
  cases hpc.symm.trans h1
  obtain ⟨cA, t0, g1, g2, g3⟩ := hw.2.2.1 a _ _ ho
  obtain ⟨i1, i2⟩ := inA_in (hs _ List.mem_cons_self) g
  have k9 := k ws H locs la _ h2 hL hl (fun v9 hv9 => by rcases List.mem_cons.mp hv9 with rfl | hv9; exact (hw.2.2.2 a _ b hb0); exact hs _ (List.mem_cons_of_mem _ (List.mem_cons_of_mem _ hv9))) hm hw hP hD hS hv
  have e9 : acn ad r h a t = .inr (.inr (.inr (.inr (fun j => (rfAt r a j).map ad)))) := by
    unfold acn
    split <;> first | omega | rfl
  rw [e9] at g3
  rw [ht] at g1
  refine va_aldq hx hb hK hP a t0 g3 g1 i1 hdg ?_
  rw [i2]
  show W p l e Rm s m args below meth c H locs cells slots Q (F0 m (pc + 1) la (va_rf ((rfAt r a x.toNat).map ad) :: _))
  rw [hb0]
  exact k9
end
