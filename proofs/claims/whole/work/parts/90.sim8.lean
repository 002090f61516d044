/-! SIM 8: what makes cells, and what moves references, on the real machine -/
theorem rV_ag {ad ad' aC : Nat → Nat} {n : Nat} {v : mv} (hag : ∀ a, a < n → ad' a = ad a) (hv : vOk n v) : rV ad' aC v = rV ad aC v := by
  rcases v with x | x | a | k
  · rfl
  · rfl
  · show Value.ref _ = Value.ref _
    rw [hag a hv]
  · rfl
theorem asc_ag {ad ad' aC : Nat → Nat} {n : Nat} (hag : ∀ a, a < n → ad' a = ad a) : ∀ {ls : List mv} {i : Nat}, (∀ v ∈ ls, vOk n v) → asc ad' aC i ls = asc ad aC i ls
  | [], i, _ => rfl
  | v :: ls, i, h => by
    unfold asc
    rw [asc_ag hag (ls := ls) (fun u hu => h u (List.mem_cons_of_mem _ hu)), rV_ag hag (h v List.mem_cons_self)]
theorem map_ag {ad ad' aC : Nat → Nat} {n : Nat} (hag : ∀ a, a < n → ad' a = ad a) {st : List mv} (h : ∀ v ∈ st, vOk n v) : st.map (rV ad' aC) = st.map (rV ad aC) := List.map_congr_left fun v hv => rV_ag hag (h v hv)
theorem vOk_mono {n m : Nat} (hnm : n ≤ m) {v : mv} (h : vOk n v) : vOk m v := by
  rcases v with x | x | a | k
  · exact h
  · exact h
  · exact Nat.lt_of_lt_of_le h hnm
  · trivial
theorem rfAt_app {r R : mRf} {a k : Nat} : rfAt (r ++ R) a k = if a < r.length then rfAt r a k else rfAt R (a - r.length) k := by
  unfold rfAt
  rw [nth_app]
  by_cases q : a < r.length
  · rw [if_pos q, if_pos q]
  · rw [if_neg q, if_neg q]
theorem fvs_ag {ad ad' : Nat → Nat} {r r' : mRf} {h : mM} {a n : Nat} (hag : ∀ b, b < n → ad' b = ad b) (hr : ∀ k, rfAt r' a k = rfAt r a k) (hb : ∀ k b, rfAt r a k = some b → b < n) : ∀ {f : List Nat} {i : Nat}, fvs ad' r' h a i f = fvs ad r h a i f
  | [], i => rfl
  | t :: f, i => by
    show fvl ad' r' h a i t :: _ = fvl ad r h a i t :: _
    rw [fvs_ag hag hr hb (f := f)]
    congr 1
    unfold fvl
    split
    · rfl
    · rw [hr]
      cases q : rfAt r a i with
      | none => rfl
      | some b =>
        show va_rf (some (ad' b)) = va_rf (some (ad b))
        rw [hag b (hb _ _ q)]
    · rfl
theorem acn_ag {ad ad' : Nat → Nat} {r r' : mRf} {h : mM} {a n t : Nat} (hag : ∀ b, b < n → ad' b = ad b) (hr : ∀ k, rfAt r' a k = rfAt r a k) (hb : ∀ k b, rfAt r a k = some b → b < n) : acn ad' r' h a t = acn ad r h a t := by
  unfold acn
  split
  · rfl
  · rfl
  · rfl
  · congr 4
    funext j
    rw [hr]
    cases q : rfAt r a j with
    | none => rfl
    | some b =>
      show some (ad' b) = some (ad b)
      rw [hag b (hb _ _ q)]
theorem isL_app {S T : mSh} {a : Nat} {k : Int} (h : a < S.length) : isL (S ++ T) a k = isL S a k := by
  unfold isL
  rw [nth_app, if_pos h]
theorem mOk_app {S T : mSh} {h : mM} (hm : mOk S h) : mOk (S ++ T) h := by
  refine ⟨hm.1, fun a k hk => ?_, fun a k ha => hm.2.2 a k (by rw [List.length_append] at ha; omega)⟩
  by_cases q : a < S.length
  · exact hm.2.1 a k (by rw [← isL_app q]; exact hk)
  · rw [hm.2.2 a k (by omega)]
    exact ⟨by omega, by omega⟩
theorem Wld_app {tys ty : List (ClassId × FieldType)} {ws wt : va_W} {ad ad' : Nat → Nat} {S T : mSh} {r R : mRf} {h : mM} (hw : Wld tys ws ad S r h) (hrl : r.length = S.length) (hag : ∀ a, a < S.length → ad' a = ad a) (hl : wt.length = T.length)
    (h1 : ∀ i ci, nth T i = some (.inl ci) → ∃ f, nth FT ci = some f ∧ wt[i]? = some (ad' (S.length + i), .inr (ci, fvs ad' (r ++ R) h (S.length + i) 0 f)))
    (h2 : ∀ i t n, nth T i = some (.inr (t, n)) → ∃ cA t0 : Nat, (tys ++ ty)[t0]? = some (cA, aty t) ∧ n < 2147483648 ∧ wt[i]? = some (ad' (S.length + i), .inl (cA, n, acn ad' (r ++ R) h (S.length + i) t)))
    (h3 : ∀ i k b, rfAt R i k = some b → b < S.length + T.length) : Wld (tys ++ ty) (ws ++ wt) ad' (S ++ T) (r ++ R) h := by
  obtain ⟨w1, w2, w3, w4⟩ := hw
  have hr : ∀ a, a < S.length → ∀ k, rfAt (r ++ R) a k = rfAt r a k := fun a ha k => by rw [rfAt_app, if_pos (by omega)]
  refine ⟨by rw [List.length_append, List.length_append, w1, hl], fun a ci ha => ?_, fun a t n ha => ?_, fun a k b hb => ?_⟩
  · rw [nth_app] at ha
    by_cases q : a < S.length
    · rw [if_pos q] at ha
      obtain ⟨f, g1, g2⟩ := w2 a ci ha
      refine ⟨f, g1, ?_⟩
      rw [List.getElem?_append_left (by omega), g2, hag a q, fvs_ag hag (hr a q) (fun k b z => w4 a k b z)]
    · rw [if_neg q] at ha
      obtain ⟨f, g1, g2⟩ := h1 _ ci ha
      rw [show S.length + (a - S.length) = a by omega] at g2
      exact ⟨f, g1, by rw [List.getElem?_append_right (by omega), w1]; exact g2⟩
  · rw [nth_app] at ha
    by_cases q : a < S.length
    · rw [if_pos q] at ha
      obtain ⟨cA, t0, g1, g2, g3⟩ := w3 a t n ha
      refine ⟨cA, t0, ?_, g2, ?_⟩
      · rw [List.getElem?_append_left (List.getElem?_eq_some_iff.mp g1).1]
        exact g1
      · rw [List.getElem?_append_left (by omega), g3, hag a q, acn_ag hag (hr a q) (fun k b z => w4 a k b z)]
    · rw [if_neg q] at ha
      obtain ⟨cA, t0, g1, g2, g3⟩ := h2 _ t n ha
      rw [show S.length + (a - S.length) = a by omega] at g3
      exact ⟨cA, t0, g1, g2, by rw [List.getElem?_append_right (by omega), w1]; exact g3⟩
  · rw [List.length_append]
    rw [rfAt_app] at hb
    by_cases q : a < r.length
    · rw [if_pos q] at hb
      have := w4 a k b hb
      omega
    · rw [if_neg q] at hb
      exact h3 _ k b hb
/-- one more cell lies at q -/
def adU (ad : Nat → Nat) (n q : Nat) : Nat → Nat := fun a => if a = n then q else ad a
theorem adU_at {ad : Nat → Nat} {n q : Nat} : adU ad n q n = q := if_pos rfl
theorem adU_ag {ad : Nat → Nat} {n q a : Nat} (h : a < n) : adU ad n q a = ad a := if_neg (by omega)
theorem nth_one {α : Type} {x y : α} {i : Nat} (h : nth [x] i = some y) : i = 0 ∧ y = x := by
  cases i with
  | zero => cases h; exact ⟨rfl, rfl⟩
  | succ i => cases i <;> cases h
theorem rfAt_none {l : List (Option Nat)} (h : ∀ o ∈ l, o = none) {i k b : Nat} (hb : rfAt [l] i k = some b) : False := by
  unfold rfAt at hb
  cases i with
  | zero =>
    show False
    have hb : (match nth l k with | some o => o | none => none) = some b := hb
    cases q : nth l k with
    | none => rw [q] at hb; cases hb
    | some o =>
      rw [q] at hb
      rw [h o (nth_mem q)] at hb
      cases hb
  | succ i => cases i <;> cases hb
theorem rep_none {n : Nat} : ∀ o ∈ List.replicate n (none : Option Nat), o = none := fun o h => List.eq_of_mem_replicate h
theorem cls_ini {ci : Nat} {f : List Nat} (h : nth FT ci = some f) : Cond.initialized (cnm ci) ∈ lw_g ∧ Cond.instantiable (cnm ci) f.length ∈ lw_g := by
  have h13 : ci < 13 := nth_lt h
  have this : ci = 0 ∨ ci = 1 ∨ ci = 2 ∨ ci = 3 ∨ ci = 4 ∨ ci = 5 ∨ ci = 6 ∨ ci = 7 ∨ ci = 8 ∨ ci = 9 ∨ ci = 10 ∨ ci = 11 ∨ ci = 12 := by omega
  rcases this with rfl | rfl | rfl | rfl | rfl | rfl | rfl | rfl | rfl | rfl | rfl | rfl | rfl <;> (cases h; exact ⟨mem_g (by decide +kernel) rfl, mem_g (by decide +kernel) rfl⟩)
/-- a new cell's fields, as the table has them -/
theorem new_fs {ad : Nat → Nat} {r : mRf} {h : mM} {a : Nat} {f : List Nat} {T : u_T} {ty0 : Nat → FieldType} (h0 : ∀ k, h a k = 0) (hr : ∀ k, rfAt r a k = none) (hty : ∀ k t, nth f k = some t → tyC t (ty0 k) = true) : ∀ j, j < f.length → defaultValue (ty0 j) = vp_V (fvs ad r h a 0 f) j := by
  intro j hj
  obtain ⟨t, ht⟩ := nth_some hj
  unfold vp_V
  rw [List.getD_eq_getElem?_getD, fvs_get ht, Nat.zero_add]
  have h9 := hty j t ht
  show _ = fvl ad r h a j t
  unfold fvl
  rw [h0, hr]
  revert h9
  unfold tyC
  split <;> intro h9 <;> first
    | (cases h9; done)
    | (rename_i q; rw [q]; rfl)
    | rfl
theorem aty_obj {ci : Nat} : aty (10 + ci) = .object (cnm ci) := by
  unfold aty
  split <;> first
    | omega
    | (congr 2; omega)
theorem acn_obj {ad : Nat → Nat} {r : mRf} {h : mM} {a ci : Nat} : acn ad r h a (10 + ci) = .inr (.inr (.inr (.inr (fun j => (rfAt r a j).map ad)))) := by
  unfold acn
  split <;> first
    | omega
    | rfl
theorem ref_ty {ty : FieldType} (a : Nat) (h : tyC 2 ty = true) : narrow ty (.ref a) = .ref a ∧ fits ty (.ref a) = true := by
  cases ty <;> first
    | exact ⟨rfl, rfl⟩
    | (cases h; done)
theorem rfAt_set {r : mRf} {a k v b j : Nat} {l : List (Option Nat)} (hl : nth r a = some l) (hk : k < l.length) : rfAt (rset r a k v) b j = if b = a ∧ j = k then some v else rfAt r b j := by
  unfold rfAt
  rw [rset_nth, hl]
  by_cases hb : b = a
  · subst hb
    rw [if_pos rfl, hl]
    dsimp only [Option.map]
    rw [lset_nth]
    by_cases hj : j = k
    · rw [if_pos ⟨hj, hk⟩, if_pos ⟨rfl, hj⟩]
    · rw [if_neg (fun q => hj q.1), if_neg (fun q => hj q.2)]
  · rw [if_neg hb, if_neg (fun q => hb q.1)]
theorem row_obj {S : mSh} {r : mRf} {a ci : Nat} {f : List Nat} (h : rOk S r) (ho : nth S a = some (.inl ci)) (hf : nth FT ci = some f) : ∃ l, nth r a = some l ∧ l.length = f.length := by
  obtain ⟨l, hl⟩ := nth_some (l := r) (a := a) (by rw [h.1]; exact nth_lt ho)
  exact ⟨l, hl, h.2 a _ l ho hl f hf⟩
theorem row_arr {S : mSh} {r : mRf} {a ci n : Nat} (h : rOk S r) (ho : nth S a = some (.inr (10 + ci, n))) : ∃ l, nth r a = some l ∧ l.length = n := by
  obtain ⟨l, hl⟩ := nth_some (l := r) (a := a) (by rw [h.1]; exact nth_lt ho)
  exact ⟨l, hl, h.2 a _ l ho hl (by omega)⟩
theorem fvs_setR {ad : Nat → Nat} {S : mSh} {r : mRf} {h : mM} {a k b ci : Nat} {f : List Nat} (hr : rOk S r) (ho : nth S a = some (.inl ci)) (hf : nth FT ci = some f) (hk : nth f k = some 2) : fvs ad (rset r a k b) h a 0 f = (fvs ad r h a 0 f).set k (.ref (ad b)) := by
  obtain ⟨l, hl, hln⟩ := row_obj hr ho hf
  have hkl : k < l.length := by rw [hln]; exact nth_lt hk
  refine List.ext_getElem? fun j => ?_
  rw [List.getElem?_set]
  by_cases hj : j < f.length
  · obtain ⟨t, ht⟩ := nth_some hj
    rw [fvs_get ht, Nat.zero_add]
    by_cases e : k = j
    · subst e
      rw [if_pos rfl, if_pos (by rw [fvs_len]; exact hj)]
      cases hk.symm.trans ht
      show some (va_rf _) = _
      rw [rfAt_set hl hkl, if_pos ⟨rfl, rfl⟩]
      rfl
    · rw [if_neg e, fvs_get ht, Nat.zero_add]
      unfold fvl
      rw [rfAt_set hl hkl, if_neg (fun q => e q.2.symm)]
  · rw [List.getElem?_eq_none (by rw [fvs_len]; omega)]
    rw [if_neg (by have := nth_lt hk; omega), List.getElem?_eq_none (by rw [fvs_len]; omega)]
theorem rfAt_ne {r : mRf} {a k v b j : Nat} (hb : b ≠ a) : rfAt (rset r a k v) b j = rfAt r b j := by
  unfold rfAt
  rw [rset_nth, if_neg hb]
theorem rfAt_sub {r : mRf} {a k v b j c : Nat} (h : rfAt (rset r a k v) b j = some c) : c = v ∨ rfAt r b j = some c := by
  by_cases hb : b = a
  · unfold rfAt at h ⊢
    rw [rset_nth, if_pos hb] at h
    subst hb
    cases q : nth r b with
    | none => rw [q] at h; cases h
    | some l =>
      rw [q] at h
      dsimp only [Option.map] at h ⊢
      rw [lset_nth] at h
      by_cases e : j = k ∧ k < l.length
      · rw [if_pos e] at h
        cases h
        exact Or.inl rfl
      · rw [if_neg e] at h
        exact Or.inr h
  · rw [rfAt_ne hb] at h
    exact Or.inr h
theorem Wld_setR {tys : List (ClassId × FieldType)} {ws : va_W} {ad : Nat → Nat} {S : mSh} {r : mRf} {h : mM} {a ci k b : Nat} {f : List Nat} (hw : Wld tys ws ad S r h) (hr : rOk S r) (ha : nth S a = some (.inl ci)) (hf : nth FT ci = some f) (hb : b < S.length) : Wld tys (ws.set a (ad a, .inr (ci, fvs ad (rset r a k b) h a 0 f))) ad S (rset r a k b) h := by
  obtain ⟨h1, h2, h3, h4⟩ := hw
  have hl : a < ws.length := by rw [h1]; exact nth_lt ha
  refine ⟨by rw [List.length_set]; exact h1, fun c ci' hc => ?_, fun c t' n' hc => ?_, fun c j d hd => ?_⟩
  · by_cases hne : c = a
    · subst hne
      rw [ha] at hc
      cases hc
      exact ⟨f, hf, by rw [List.getElem?_set_self hl]⟩
    · obtain ⟨f', hf', hq⟩ := h2 c ci' hc
      exact ⟨f', hf', by rw [List.getElem?_set_ne (Ne.symm hne), hq, fvs_ag (ad' := ad) (r' := rset r a k b) (n := S.length) (fun _ _ => rfl) (fun j => rfAt_ne hne) (fun j d hd => h4 c j d hd)]⟩
  · have hne : c ≠ a := fun q => by subst q; rw [ha] at hc; cases hc
    obtain ⟨cA', t0, g1, g2, g3⟩ := h3 c t' n' hc
    exact ⟨cA', t0, g1, g2, by rw [List.getElem?_set_ne (Ne.symm hne), g3, acn_ag (ad' := ad) (r' := rset r a k b) (n := S.length) (fun _ _ => rfl) (fun j => rfAt_ne hne) (fun j d hd => h4 c j d hd)]⟩
  · rcases rfAt_sub hd with rfl | hd
    · exact hb
    · exact h4 c j d hd
theorem acn_setR {ad : Nat → Nat} {S : mSh} {r : mRf} {h : mM} {a n ci v : Nat} {x : Int} (hr : rOk S r) (ho : nth S a = some (.inr (10 + ci, n))) (g : inA x n) : acn ad (rset r a x.toNat v) h a (10 + ci) = .inr (.inr (.inr (.inr (va_up (fun j => (rfAt r a j).map ad) x.toNat (some (ad v)))))) := by
  obtain ⟨l, hl, hln⟩ := row_arr hr ho
  rw [acn_obj]
  congr 4
  funext j
  unfold va_up
  rw [rfAt_set hl (by rw [hln]; have := g.2; have := g.1; omega)]
  by_cases e : j = x.toNat
  · rw [if_pos ⟨rfl, e⟩, if_pos e]
    rfl
  · rw [if_neg (fun q => e q.2), if_neg e]
theorem Wld_setA {tys : List (ClassId × FieldType)} {ws : va_W} {ad : Nat → Nat} {S : mSh} {r : mRf} {h : mM} {a t n k v cA : Nat} (hw : Wld tys ws ad S r h) (hr : rOk S r) (ha : nth S a = some (.inr (t, n))) (hcl : ws[a]? = some (ad a, .inl (cA, n, acn ad r h a t))) (hv : v < S.length) : Wld tys (ws.set a (ad a, .inl (cA, n, acn ad (rset r a k v) h a t))) ad S (rset r a k v) h := by
  obtain ⟨h1, h2, h3, h4⟩ := hw
  have hl := (List.getElem?_eq_some_iff.mp hcl).1
  refine ⟨by rw [List.length_set]; exact h1, fun c ci' hc => ?_, fun c t' n' hc => ?_, fun c j d hd => ?_⟩
  · have hne : c ≠ a := fun q => by subst q; rw [ha] at hc; cases hc
    obtain ⟨f', hf', hq⟩ := h2 c ci' hc
    exact ⟨f', hf', by rw [List.getElem?_set_ne (Ne.symm hne), hq, fvs_ag (ad' := ad) (r' := rset r a k v) (n := S.length) (fun _ _ => rfl) (fun j => rfAt_ne hne) (fun j d hd => h4 c j d hd)]⟩
  · by_cases hne : c = a
    · subst hne
      rw [ha] at hc
      cases hc
      obtain ⟨cA', t0, g1, g2, g3⟩ := h3 c _ _ ha
      rw [hcl] at g3
      cases g3
      exact ⟨_, t0, g1, g2, by rw [List.getElem?_set_self hl]⟩
    · obtain ⟨cA', t0, g1, g2, g3⟩ := h3 c t' n' hc
      exact ⟨cA', t0, g1, g2, by rw [List.getElem?_set_ne (Ne.symm hne), g3, acn_ag (ad' := ad) (r' := rset r a k v) (n := S.length) (fun _ _ => rfl) (fun j => rfAt_ne hne) (fun j d hd => h4 c j d hd)]⟩
  · rcases rfAt_sub hd with rfl | hd
    · exact hv
    · exact h4 c j d hd
theorem obj_inst : Cond.instanceMethod Lib.objectInit ∈ lw_g := mem_g (by decide +kernel) rfl
theorem obj_code : Cond.code Lib.objectInit ⟨#[0xb1]⟩ 1 none ∈ lw_g := mem_g (by decide +kernel) rfl
/-- what the machine does where a row of rows of longs is made (proved in the last part, over the whole library) -/
def MnaR : Prop := ∀ (X : va_W) {p : Program} {l : Launch} {e : Env} {R : Room} {s : State} {m : MethodId} {args : Array Value} {below : List Frame} {meth : Method} {c : Code} {H : Heap} {locs : List Loc} {cells slots : Nat} {Q : State → Prop} {pc : Nat} {ls : Array Slot} {rest : List Value} {D : va_G} {cl : List vw_C} {A : Nat → Prop} {tys : List (ClassId × FieldType)} {H0 : Heap} {cc : ByteArray} {own : String} {index : Nat} {cy : ClassId} {n k : Int32} {N' K' : Nat}, p.tables.exec = Jvm.exec → c.code = cc → s.vm.findClass own = some m.cls → (Cond.classLink own index ("[" ++ (FieldType.array .long).toString)).before args s = true → sm_AOA .long s → (Cond.arrayClass .long).before args s = true → s.vm.findClass (FieldType.array .long).toString = some cy → va_K D cl tys s → va_P D cl (X ++ va_pl [] (fun _ => .inr (0, []))) H → va_D A (X ++ va_pl [] (fun _ => .inr (0, []))) → va_S A H0 H locs → (∀ q, H0.size ≤ q → A q) → ¬ n < 0 → ¬ k < 0 → n.toNatClampNeg = N' → k.toNatClampNeg = K' → N' * 4 ≤ 536870912 → K' * componentBytes .long ≤ 536870912 → K' ≤ 536870912 → cells + (1 + N') ≤ R.cells → slots + (N' + N' * K') ≤ R.slots → decode cc pc = .ok (.multianewarray index 2, 4) →
    (∀ (q : Nat) (r : Nat → Nat) (cA : ClassId) (H1 : Heap), (∀ i j : Nat, i < N' → j < N' → r i = r j → i = j) → (∀ i : Nat, i < N' → r i ∉ ([] : List Nat)) → va_K D cl (tys ++ [(cA, .array .long)]) s →
      va_P D cl ((X ++ [(q, .inl (cA, N', .inr (.inr (.inr (.inr (fun i => if i < N' then some (r i) else none))))))]) ++ va_pl ([] ++ (List.range N').map r) (vr_up (fun _ => .inr (0, [])) ((List.range N').map r) (.inl (cy, (K', .inr (.inl (fun _ => Int64.ofInt 0))))))) H1 → va_D A ((X ++ [(q, .inl (cA, N', .inr (.inr (.inr (.inr (fun i => if i < N' then some (r i) else none))))))]) ++ va_pl ([] ++ (List.range N').map r) (vr_up (fun _ => .inr (0, [])) ((List.range N').map r) (.inl (cy, (K', .inr (.inl (fun _ => Int64.ofInt 0))))))) → va_S A H0 H1 locs →
      W p l e R s m args below meth c H1 locs (cells + 1 + N') (slots + N' + N' * K') Q (F0 m (pc + 4) ls (.ref q :: rest))) → W p l e R s m args below meth c H locs cells slots Q (F0 m pc ls (.int k :: .int n :: rest))
/-- a row of rows lies at q, its rows at rr -/
def adM (ad : Nat → Nat) (n q : Nat) (rr : Nat → Nat) : Nat → Nat := fun a => if a = n then q else if n < a then rr (a - n - 1) else ad a
theorem adM_ag {ad : Nat → Nat} {n q a : Nat} {rr : Nat → Nat} (h : a < n) : adM ad n q rr a = ad a := by
  unfold adM
  rw [if_neg (by omega), if_neg (by omega)]
theorem adM_at {ad : Nat → Nat} {n q : Nat} {rr : Nat → Nat} : adM ad n q rr n = q := if_pos rfl
theorem adM_in {ad : Nat → Nat} {n q i : Nat} {rr : Nat → Nat} : adM ad n q rr (n + (i + 1)) = rr i := by
  unfold adM
  rw [if_neg (by omega), if_pos (by omega), show n + (i + 1) - n - 1 = i by omega]
theorem Wld_mna {tys : List (ClassId × FieldType)} {ws : va_W} {ad rr : Nat → Nat} {S : mSh} {r : mRf} {h : mM} {q cA cy : Nat} {n k : Int} (hw : Wld tys ws ad S r h) (hrl : r.length = S.length) (hn : n ≤ 100) (hk : k ≤ 100) (h0 : ∀ a k, S.length ≤ a → h a k = 0) :
    Wld (tys ++ ([(cA, .array .long)] ++ [(cy, .long)])) (ws ++ ([(q, .inl (cA, n.toNat, .inr (.inr (.inr (.inr (fun i => if i < n.toNat then some (rr i) else none))))))] ++ va_pl ((List.range n.toNat).map rr) (vr_up (fun _ => .inr (0, [])) ((List.range n.toNat).map rr) (.inl (cy, k.toNat, .inr (.inl (fun _ => Int64.ofInt 0))))))) (adM ad S.length q rr) (S ++ (.inr (3, n.toNat) :: List.replicate n.toNat (.inr (1, k.toNat)))) (r ++ ((List.range n.toNat).map (fun q => some (S.length + 1 + q)) :: List.replicate n.toNat [])) h := by
  have row0 : ∀ j, nth ((List.range n.toNat).map (fun q => some (S.length + 1 + q))) j = if j < n.toNat then some (some (S.length + 1 + j)) else none := by
    intro j
    rw [nth_get, List.getElem?_map]
    by_cases hj : j < n.toNat
    · rw [if_pos hj, List.getElem?_range hj]; rfl
    · rw [if_neg hj, List.getElem?_eq_none (by simpa using hj)]; rfl
  have rows : ∀ i j, rfAt ((List.range n.toNat).map (fun q => some (S.length + 1 + q)) :: List.replicate n.toNat []) i j = if i = 0 ∧ j < n.toNat then some (S.length + 1 + j) else none := by
    intro i j
    unfold rfAt
    cases i with
    | zero =>
      show (match nth ((List.range n.toNat).map (fun q => some (S.length + 1 + q))) j with | some o => o | none => none) = _
      rw [row0]
      by_cases hj : j < n.toNat
      · rw [if_pos hj, if_pos ⟨rfl, hj⟩]
      · rw [if_neg hj, if_neg (fun z => hj z.2)]
    | succ i =>
      rw [if_neg (fun z => by omega)]
      show (match nth (List.replicate n.toNat ([] : List (Option Nat))) i with | some l => (match nth l j with | some o => o | none => none) | none => none) = none
      cases e : nth (List.replicate n.toNat ([] : List (Option Nat))) i with
      | none => rfl
      | some l =>
        rw [nth_rep e]
        rfl
  refine Wld_app hw hrl (fun a ha => adM_ag ha) (by simp [va_pl]) (fun i ci hi => ?_) (fun i t n9 hi => ?_) (fun i j b hb => ?_)
  · exfalso
    cases i with
    | zero => cases hi
    | succ i => cases nth_rep (show nth (List.replicate n.toNat (Sum.inr (1, k.toNat))) i = some (Sum.inl ci) from hi)
  · cases i with
    | zero =>
      cases hi
      refine ⟨cA, tys.length, by rw [List.getElem?_append_right (Nat.le_refl _), Nat.sub_self]; rfl, by omega, ?_⟩
      rw [Nat.add_zero, adM_at]
      show some (q, _) = some (q, Sum.inl (cA, n.toNat, acn _ _ _ _ 3))
      unfold acn
      congr 9
      funext j
      rw [rfAt_app, if_neg (show ¬ S.length < r.length by omega), hrl, Nat.sub_self, rows]
      by_cases hj : j < n.toNat
      · rw [if_pos hj, if_pos ⟨rfl, hj⟩]
        show some (rr j) = some (adM ad S.length q rr (S.length + 1 + j))
        rw [show S.length + 1 + j = S.length + (j + 1) by omega, adM_in]
      · rw [if_neg hj, if_neg (fun z => hj z.2)]
        rfl
    | succ i =>
      have hi9 : nth (List.replicate n.toNat (Sum.inr (1, k.toNat))) i = some (Sum.inr (t, n9)) := hi
      have hil : i < n.toNat := by have := nth_lt hi9; simpa using this
      cases nth_rep hi9
      refine ⟨cy, tys.length + 1, by rw [List.getElem?_append_right (by omega), show tys.length + 1 - tys.length = 1 by omega]; rfl, by omega, ?_⟩
      rw [adM_in]
      show (va_pl ((List.range n.toNat).map rr) _)[i]? = _
      unfold va_pl
      rw [List.getElem?_map, List.getElem?_map, List.getElem?_range hil]
      show some (rr i, vr_up _ _ _ (rr i)) = some (rr i, Sum.inl (cy, k.toNat, acn _ _ _ _ 1))
      rw [vr_up_in (List.mem_map.mpr ⟨i, List.mem_range.mpr hil, rfl⟩)]
      unfold acn
      simp only [h0 (S.length + (i + 1)) _ (by omega)]
  · rw [rows] at hb
    by_cases e : i = 0 ∧ j < n.toNat
    · rw [if_pos e] at hb
      cases hb
      simp only [List.length_cons, List.length_replicate]
      omega
    · rw [if_neg e] at hb
      cases hb
section
variable {p : Program} {l : Launch} {e : Env} {Rm : Room} {s : State} {m : MethodId} {args : Array Value} {below : List Frame} {meth : Method} {c : Code} {cc : ByteArray} {D : va_G} {A : Nat → Prop} {tys : List (ClassId × FieldType)} {ad aC : Nat → Nat} {nL cells slots : Nat} {Q : State → Prop} {pcs : List Nat} {S : mSh} {r : mRf} {j nx : Nat} {ls st : List mv} {h : mM}
theorem go_new (hx : p.tables.exec = Jvm.exec) (hb : c.code = cc) {own : String} {i ci : Nat} {f : List Nat} (hts : ∀ w ∈ lw_g, w.before args s = true) (hown : s.vm.findClass own = some m.cls) (hK : va_K D vwCl tys s) (hf : nth FT ci = some f) (hcl : (Cond.classLink own i (cnm ci)).before args s = true) (hA0 : ∀ q, s.heap.size ≤ q → A q) (hrO : r.length = S.length) (hcells : cells + 1 ≤ Rm.cells) (hslots : slots + f.length ≤ Rm.slots) (hd : Dc cc pcs j (.new i) 3 nx) (k : ∀ ad9 : Nat → Nat, (∀ a, a < S.length → ad9 a = ad a) → Go (fun H locs pc la sv => W p l e Rm s m args below meth c H locs (cells + 1) (slots + f.length) Q (F0 m pc la sv)) D A tys ad9 aC nL s pcs (S ++ [.inl ci]) (r ++ [List.replicate f.length none]) (nx) (ls) (mR S.length :: st) (h)) : Go (fun H locs pc la sv => W p l e Rm s m args below meth c H locs cells slots Q (F0 m pc la sv)) D A tys ad aC nL s pcs S r (j) (ls) (st) (h) := by
  intro ws H locs la pc hpc hL hl hs hm hw hP hD hS hv
  obtain ⟨pc0, h1, hdg, h2⟩ := hd
  cases hpc.symm.trans h1
  obtain ⟨C, N, hc, hfl, hin, ⟨ty0, hty, hty2⟩, hnm⟩ := vwT_facts hf
  have hcn : cnm ci = C := by unfold cnm; rw [nth_get, hc]
  obtain ⟨hi1, hi2⟩ := cls_ini hf
  rw [hcn] at hcl hi1 hi2
  rw [hfl] at hslots hi2
  have hR : ∀ k, rfAt (r ++ [List.replicate f.length none]) S.length k = none := fun k => by
    rw [rfAt_app, if_neg (by omega), hrO, Nat.sub_self]
    cases q : rfAt [List.replicate f.length none] 0 k with
    | none => rfl
    | some b => exact (rfAt_none rep_none q).elim
  have hr0 : ∀ q, fvs (adU ad S.length q) (r ++ [List.replicate f.length none]) h S.length 0 f = fvs ad (r ++ [List.replicate f.length none]) h S.length 0 f := fun q => fvs_ag (n := S.length) (fun a ha => adU_ag ha) (fun _ => rfl) (fun k b z => by rw [hR] at z; cases z)
  refine va_new hx hb hts hin ty0 hty hown hcl (hts _ hi2) (hts _ hi1) hK hP hD hS hA0 hc (fs := fvs ad (r ++ [List.replicate f.length none]) h S.length 0 f) (fun j hj => new_fs (T := vwT ci) (hm.2.2 S.length · (Nat.le_refl _)) hR hty2 j (by omega)) hcells hslots hdg (fun q H1 hP1 hD1 hS1 => ?_)
  have hw9 : Wld tys (ws ++ [(q, .inr (ci, fvs ad (r ++ [List.replicate f.length none]) h S.length 0 f))]) (adU ad S.length q) (S ++ [.inl ci]) (r ++ [List.replicate f.length none]) h := by
    have z := Wld_app (ty := []) (wt := [(q, .inr (ci, fvs ad (r ++ [List.replicate f.length none]) h S.length 0 f))]) (T := [.inl ci]) (R := [List.replicate f.length none]) hw hrO (fun a ha => adU_ag (q := q) ha) rfl (fun i c2 hi => ?_) (fun i t n hi => by cases (nth_one hi).2) (fun i k b hb => (rfAt_none rep_none hb).elim)
    · rwa [List.append_nil] at z
    · obtain ⟨e1, e2⟩ := nth_one hi
      cases e2
      subst e1
      exact ⟨f, hf, by rw [Nat.add_zero, adU_at, hr0]; rfl⟩
  rw [← hfl] at *
  have hv9 : lv_has la nL (asc (adU ad S.length q) aC 0 ls) := by rw [asc_ag (fun a ha => adU_ag ha) hl]; exact hv
  have hs9 : ∀ v ∈ st, vOk S.length v := fun v9 hv9 => hs _ hv9
  have k9 := k (adU ad S.length q) (fun a ha => adU_ag ha)  _ H1 locs la _ h2 hL (fun v9 hv9 => vOk_mono (by simp) (hl _ hv9)) (fun v9 hv9 => by rcases List.mem_cons.mp hv9 with rfl | hv9; exact (show S.length < _ by simp); exact vOk_mono (by simp) (hs9 _ hv9)) (mOk_app hm) hw9 hP1 hD1 hS1 hv9
  rw [List.map_cons, map_ag (fun a ha => adU_ag ha) hs9, show rV (adU ad S.length q) aC (mR S.length) = .ref q by show Value.ref (adU ad S.length q S.length) = _; rw [adU_at]] at k9
  exact k9
theorem go_newI (hx : p.tables.exec = Jvm.exec) (hb : c.code = cc) {n : Int} (hts : ∀ w ∈ lw_g, w.before args s = true) (hK : va_K D vwCl tys s) (hA0 : ∀ q, s.heap.size ≤ q → A q) (hrO : r.length = S.length) (g : 0 ≤ n ∧ n ≤ 10000) (hcells : cells + 1 ≤ Rm.cells) (hslots : slots + n.toNat ≤ Rm.slots) (hd : Dc cc pcs j (.newarray .int) 2 nx) (k : ∀ ad9 : Nat → Nat, (∀ a, a < S.length → ad9 a = ad a) → ∀ tys9, va_K D vwCl tys9 s → Go (fun H locs pc la sv => W p l e Rm s m args below meth c H locs (cells + 1) (slots + n.toNat) Q (F0 m pc la sv)) D A tys9 ad9 aC nL s pcs (S ++ [.inr (0, n.toNat)]) (r ++ [[]]) (nx) (ls) (mR S.length :: st) (h)) : Go (fun H locs pc la sv => W p l e Rm s m args below meth c H locs cells slots Q (F0 m pc la sv)) D A tys ad aC nL s pcs S r (j) (ls) (mI n :: st) (h) := by
  intro ws H locs la pc hpc hL hl hs hm hw hP hD hS hv
  obtain ⟨pc0, h1, hdg, h2⟩ := hd
  cases hpc.symm.trans h1
  have hn9 : inI n := hs _ List.mem_cons_self
  refine va_newa hx hb (atype := .int) (ty := .int) (hts (Cond.arrayClass .int) (mem_g (by decide +kernel) rfl)) rfl hK hP hD hS hA0 (a0 := (n.toNat, .inl (fun _ => Int32.ofInt 0))) (fun cA => rfl) (nneg hn9 g.1) (clampN hn9) (by show n.toNat * 4 ≤ _; omega) hcells hslots hdg (fun q cA H1 hK1 hP1 hD1 hS1 => ?_)
  have hw9 : Wld (tys ++ [(cA, .int)]) (ws ++ [(q, .inl (cA, (n.toNat, .inl (fun _ => Int32.ofInt 0))))]) (adU ad S.length q) (S ++ [.inr (0, n.toNat)]) (r ++ [[]]) h := by
    refine Wld_app hw hrO (fun a ha => adU_ag (q := q) ha) rfl (fun i c2 hi => by cases (nth_one hi).2) (fun i t n9 hi => ?_) (fun i k b hb => (rfAt_none (l := []) (fun o ho => by cases ho) hb).elim)
    obtain ⟨e1, e2⟩ := nth_one hi
    cases e2
    subst e1
    refine ⟨cA, tys.length, by rw [List.getElem?_append_right (Nat.le_refl _), Nat.sub_self]; rfl, by omega, ?_⟩
    rw [Nat.add_zero, adU_at]
    show some (q, _) = some (q, Sum.inl (cA, n.toNat, acn _ _ _ _ 0))
    unfold acn
    simp only [hm.2.2 S.length _ (Nat.le_refl _)]
  have hv9 : lv_has la nL (asc (adU ad S.length q) aC 0 ls) := by rw [asc_ag (fun a ha => adU_ag ha) hl]; exact hv
  have hs9 : ∀ v ∈ st, vOk S.length v := fun v9 hv9 => hs _ (List.mem_cons_of_mem _ hv9)
  have k9 := k (adU ad S.length q) (fun a ha => adU_ag ha) _ hK1 _ H1 locs la _ h2 hL (fun v9 hv9 => vOk_mono (by simp) (hl _ hv9)) (fun v9 hv9 => by rcases List.mem_cons.mp hv9 with rfl | hv9; exact (show S.length < _ by simp); exact vOk_mono (by simp) (hs9 _ hv9)) (mOk_app hm) hw9 hP1 hD1 hS1 hv9
  rw [List.map_cons, map_ag (fun a ha => adU_ag ha) hs9, show rV (adU ad S.length q) aC (mR S.length) = .ref q by show Value.ref (adU ad S.length q S.length) = _; rw [adU_at]] at k9
  exact k9
theorem go_newL (hx : p.tables.exec = Jvm.exec) (hb : c.code = cc) {n : Int} (hts : ∀ w ∈ lw_g, w.before args s = true) (hK : va_K D vwCl tys s) (hA0 : ∀ q, s.heap.size ≤ q → A q) (hrO : r.length = S.length) (g : 0 ≤ n ∧ n ≤ 10000) (hcells : cells + 1 ≤ Rm.cells) (hslots : slots + n.toNat ≤ Rm.slots) (hd : Dc cc pcs j (.newarray .long) 2 nx) (k : ∀ ad9 : Nat → Nat, (∀ a, a < S.length → ad9 a = ad a) → ∀ tys9, va_K D vwCl tys9 s → Go (fun H locs pc la sv => W p l e Rm s m args below meth c H locs (cells + 1) (slots + n.toNat) Q (F0 m pc la sv)) D A tys9 ad9 aC nL s pcs (S ++ [.inr (1, n.toNat)]) (r ++ [[]]) (nx) (ls) (mR S.length :: st) (h)) : Go (fun H locs pc la sv => W p l e Rm s m args below meth c H locs cells slots Q (F0 m pc la sv)) D A tys ad aC nL s pcs S r (j) (ls) (mI n :: st) (h) := by
  intro ws H locs la pc hpc hL hl hs hm hw hP hD hS hv
  obtain ⟨pc0, h1, hdg, h2⟩ := hd
  cases hpc.symm.trans h1
  have hn9 : inI n := hs _ List.mem_cons_self
  refine va_newa hx hb (atype := .long) (ty := .long) (hts (Cond.arrayClass .long) (mem_g (by decide +kernel) rfl)) rfl hK hP hD hS hA0 (a0 := (n.toNat, .inr (.inl (fun _ => Int64.ofInt 0)))) (fun cA => rfl) (nneg hn9 g.1) (clampN hn9) (by show n.toNat * 8 ≤ _; omega) hcells hslots hdg (fun q cA H1 hK1 hP1 hD1 hS1 => ?_)
  have hw9 : Wld (tys ++ [(cA, .long)]) (ws ++ [(q, .inl (cA, (n.toNat, .inr (.inl (fun _ => Int64.ofInt 0)))))]) (adU ad S.length q) (S ++ [.inr (1, n.toNat)]) (r ++ [[]]) h := by
    refine Wld_app hw hrO (fun a ha => adU_ag (q := q) ha) rfl (fun i c2 hi => by cases (nth_one hi).2) (fun i t n9 hi => ?_) (fun i k b hb => (rfAt_none (l := []) (fun o ho => by cases ho) hb).elim)
    obtain ⟨e1, e2⟩ := nth_one hi
    cases e2
    subst e1
    refine ⟨cA, tys.length, by rw [List.getElem?_append_right (Nat.le_refl _), Nat.sub_self]; rfl, by omega, ?_⟩
    rw [Nat.add_zero, adU_at]
    show some (q, _) = some (q, Sum.inl (cA, n.toNat, acn _ _ _ _ 1))
    unfold acn
    simp only [hm.2.2 S.length _ (Nat.le_refl _)]
  have hv9 : lv_has la nL (asc (adU ad S.length q) aC 0 ls) := by rw [asc_ag (fun a ha => adU_ag ha) hl]; exact hv
  have hs9 : ∀ v ∈ st, vOk S.length v := fun v9 hv9 => hs _ (List.mem_cons_of_mem _ hv9)
  have k9 := k (adU ad S.length q) (fun a ha => adU_ag ha) _ hK1 _ H1 locs la _ h2 hL (fun v9 hv9 => vOk_mono (by simp) (hl _ hv9)) (fun v9 hv9 => by rcases List.mem_cons.mp hv9 with rfl | hv9; exact (show S.length < _ by simp); exact vOk_mono (by simp) (hs9 _ hv9)) (mOk_app hm) hw9 hP1 hD1 hS1 hv9
  rw [List.map_cons, map_ag (fun a ha => adU_ag ha) hs9, show rV (adU ad S.length q) aC (mR S.length) = .ref q by show Value.ref (adU ad S.length q S.length) = _; rw [adU_at]] at k9
  exact k9
theorem go_newB (hx : p.tables.exec = Jvm.exec) (hb : c.code = cc) {n : Int} (hts : ∀ w ∈ lw_g, w.before args s = true) (hK : va_K D vwCl tys s) (hA0 : ∀ q, s.heap.size ≤ q → A q) (hrO : r.length = S.length) (g : 0 ≤ n ∧ n ≤ 10000) (hcells : cells + 1 ≤ Rm.cells) (hslots : slots + n.toNat ≤ Rm.slots) (hd : Dc cc pcs j (.newarray .byte) 2 nx) (k : ∀ ad9 : Nat → Nat, (∀ a, a < S.length → ad9 a = ad a) → ∀ tys9, va_K D vwCl tys9 s → Go (fun H locs pc la sv => W p l e Rm s m args below meth c H locs (cells + 1) (slots + n.toNat) Q (F0 m pc la sv)) D A tys9 ad9 aC nL s pcs (S ++ [.inr (2, n.toNat)]) (r ++ [[]]) (nx) (ls) (mR S.length :: st) (h)) : Go (fun H locs pc la sv => W p l e Rm s m args below meth c H locs cells slots Q (F0 m pc la sv)) D A tys ad aC nL s pcs S r (j) (ls) (mI n :: st) (h) := by
  intro ws H locs la pc hpc hL hl hs hm hw hP hD hS hv
  obtain ⟨pc0, h1, hdg, h2⟩ := hd
  cases hpc.symm.trans h1
  have hn9 : inI n := hs _ List.mem_cons_self
  refine va_newa hx hb (atype := .byte) (ty := .byte) (hts (Cond.arrayClass .byte) (mem_g (by decide +kernel) rfl)) rfl hK hP hD hS hA0 (a0 := (n.toNat, .inl (fun _ => Int32.ofInt 0))) (fun cA => rfl) (nneg hn9 g.1) (clampN hn9) (by show n.toNat * 1 ≤ _; omega) hcells hslots hdg (fun q cA H1 hK1 hP1 hD1 hS1 => ?_)
  have hw9 : Wld (tys ++ [(cA, .byte)]) (ws ++ [(q, .inl (cA, (n.toNat, .inl (fun _ => Int32.ofInt 0))))]) (adU ad S.length q) (S ++ [.inr (2, n.toNat)]) (r ++ [[]]) h := by
    refine Wld_app hw hrO (fun a ha => adU_ag (q := q) ha) rfl (fun i c2 hi => by cases (nth_one hi).2) (fun i t n9 hi => ?_) (fun i k b hb => (rfAt_none (l := []) (fun o ho => by cases ho) hb).elim)
    obtain ⟨e1, e2⟩ := nth_one hi
    cases e2
    subst e1
    refine ⟨cA, tys.length, by rw [List.getElem?_append_right (Nat.le_refl _), Nat.sub_self]; rfl, by omega, ?_⟩
    rw [Nat.add_zero, adU_at]
    show some (q, _) = some (q, Sum.inl (cA, n.toNat, acn _ _ _ _ 2))
    unfold acn
    simp only [hm.2.2 S.length _ (Nat.le_refl _)]
  have hv9 : lv_has la nL (asc (adU ad S.length q) aC 0 ls) := by rw [asc_ag (fun a ha => adU_ag ha) hl]; exact hv
  have hs9 : ∀ v ∈ st, vOk S.length v := fun v9 hv9 => hs _ (List.mem_cons_of_mem _ hv9)
  have k9 := k (adU ad S.length q) (fun a ha => adU_ag ha) _ hK1 _ H1 locs la _ h2 hL (fun v9 hv9 => vOk_mono (by simp) (hl _ hv9)) (fun v9 hv9 => by rcases List.mem_cons.mp hv9 with rfl | hv9; exact (show S.length < _ by simp); exact vOk_mono (by simp) (hs9 _ hv9)) (mOk_app hm) hw9 hP1 hD1 hS1 hv9
  rw [List.map_cons, map_ag (fun a ha => adU_ag ha) hs9, show rV (adU ad S.length q) aC (mR S.length) = .ref q by show Value.ref (adU ad S.length q S.length) = _; rw [adU_at]] at k9
  exact k9
theorem go_newq (hx : p.tables.exec = Jvm.exec) (hb : c.code = cc) {own : String} {i ci : Nat} {n : Int} (hts : ∀ w ∈ lw_g, w.before args s = true) (hown : s.vm.findClass own = some m.cls) (hK : va_K D vwCl tys s) (hcl : (Cond.classLink own i (cnm ci)).before args s = true) (hAO : va_AO (cnm ci) s) (hA0 : ∀ q, s.heap.size ≤ q → A q) (hrO : r.length = S.length) (g : 0 ≤ n ∧ n ≤ 10000) (hcells : cells + 1 ≤ Rm.cells) (hslots : slots + n.toNat ≤ Rm.slots) (hd : Dc cc pcs j (.anewarray i) 3 nx) (k : ∀ ad9 : Nat → Nat, (∀ a, a < S.length → ad9 a = ad a) → ∀ tys9, va_K D vwCl tys9 s → Go (fun H locs pc la sv => W p l e Rm s m args below meth c H locs (cells + 1) (slots + n.toNat) Q (F0 m pc la sv)) D A tys9 ad9 aC nL s pcs (S ++ [.inr (10 + ci, n.toNat)]) (r ++ [List.replicate n.toNat none]) (nx) (ls) (mR S.length :: st) (h)) : Go (fun H locs pc la sv => W p l e Rm s m args below meth c H locs cells slots Q (F0 m pc la sv)) D A tys ad aC nL s pcs S r (j) (ls) (mI n :: st) (h) := by
  intro ws H locs la pc hpc hL hl hs hm hw hP hD hS hv
  obtain ⟨pc0, h1, hdg, h2⟩ := hd
  cases hpc.symm.trans h1
  have hn9 : inI n := hs _ List.mem_cons_self
  have hR : ∀ k, rfAt (r ++ [List.replicate n.toNat none]) S.length k = none := fun k => by
    rw [rfAt_app, if_neg (by omega), hrO, Nat.sub_self]
    cases q : rfAt [List.replicate n.toNat none] 0 k with
    | none => rfl
    | some b => exact (rfAt_none rep_none q).elim
  refine va_newq hx hb hown hcl hAO hK hP hD hS hA0 (nneg hn9 g.1) (clampN hn9) (by omega) hcells hslots hdg (fun q cA H1 hK1 hP1 hD1 hS1 => ?_)
  have hw9 : Wld (tys ++ [(cA, .object (cnm ci))]) (ws ++ [(q, .inl (cA, n.toNat, .inr (.inr (.inr (.inr (fun _ => none))))))]) (adU ad S.length q) (S ++ [.inr (10 + ci, n.toNat)]) (r ++ [List.replicate n.toNat none]) h := by
    refine Wld_app hw hrO (fun a ha => adU_ag (q := q) ha) rfl (fun i c2 hi => by cases (nth_one hi).2) (fun i t n9 hi => ?_) (fun i k b hb => (rfAt_none rep_none hb).elim)
    obtain ⟨e1, e2⟩ := nth_one hi
    cases e2
    subst e1
    refine ⟨cA, tys.length, by rw [List.getElem?_append_right (Nat.le_refl _), Nat.sub_self]; show some (cA, _) = some (cA, aty (10 + ci)); rw [aty_obj], by omega, ?_⟩
    rw [Nat.add_zero, adU_at]
    show some (q, _) = some (q, Sum.inl (cA, n.toNat, acn _ _ _ _ (10 + ci)))
    rw [acn_obj]
    simp only [hR]
    rfl
  have hv9 : lv_has la nL (asc (adU ad S.length q) aC 0 ls) := by rw [asc_ag (fun a ha => adU_ag ha) hl]; exact hv
  have hs9 : ∀ v ∈ st, vOk S.length v := fun v9 hv9 => hs _ (List.mem_cons_of_mem _ hv9)
  have k9 := k (adU ad S.length q) (fun a ha => adU_ag ha) _ hK1 _ H1 locs la _ h2 hL (fun v9 hv9 => vOk_mono (by simp) (hl _ hv9)) (fun v9 hv9 => by rcases List.mem_cons.mp hv9 with rfl | hv9; exact (show S.length < _ by simp); exact vOk_mono (by simp) (hs9 _ hv9)) (mOk_app hm) hw9 hP1 hD1 hS1 hv9
  rw [List.map_cons, map_ag (fun a ha => adU_ag ha) hs9, show rV (adU ad S.length q) aC (mR S.length) = .ref q by show Value.ref (adU ad S.length q S.length) = _; rw [adU_at]] at k9
  exact k9
theorem go_putR (hx : p.tables.exec = Jvm.exec) (hb : c.code = cc) {own ref C : String} {T : u_T} {N ci i kf b : Nat} {f : List Nat} {a : Nat} (hts : ∀ w ∈ lw_g, w.before args s = true) (hin : ∀ w ∈ u_ws C T N, w ∈ lw_g) (hown : s.vm.findClass own = some m.cls) (hK : va_K D vwCl tys s) (hc : vwCl[ci]? = some (C, T, N)) (hf : nth FT ci = some f) (ht : nth f kf = some 2) (hkN : kf < N) (hlink : (Cond.fieldLink own i ref (T kf).2.1 (T kf).2.2.1).before args s = true) (hsame : ref = (T kf).1) (ho : nth S a = some (.inl ci)) (ty0 : Nat → FieldType) (hty : ∀ k, k < N → parseFieldDescriptor (T k).2.2.1 = some (ty0 k)) (hnm : ∀ a, a < N → ∀ b, b < N → a ≠ b → (T a).2.1 ≠ (T b).2.1) (h00 : tyC 2 (ty0 kf) = true) (hrO : rOk S r) (hfin : (T kf).2.2.2 = false) (hd : Dc cc pcs j (.putfield i) 3 nx) (k : Go (fun H locs pc la sv => W p l e Rm s m args below meth c H locs (cells) (slots) Q (F0 m pc la sv)) D A tys ad aC nL s pcs (S) (rset r a kf b) (nx) (ls) (st) (h)) : Go (fun H locs pc la sv => W p l e Rm s m args below meth c H locs cells slots Q (F0 m pc la sv)) D A tys ad aC nL s pcs S r (j) (ls) (mR b :: mR a :: st) (h) := by
  intro ws H locs la pc hpc hL hl hs hm hw hP hD hS hv
  obtain ⟨pc0, h1, hdg, h2⟩ := hd
  cases hpc.symm.trans h1
  obtain ⟨f9, hf9, hc9⟩ := hw.2.1 a ci ho
  cases hf.symm.trans hf9
  have hb9 : b < S.length := hs _ List.mem_cons_self
  obtain ⟨nr, nf⟩ := ref_ty (ad b) h00
  refine va_put (D := D) (v := .ref (ad b)) (ty := ty0 kf) hx hb hts hin ty0 hty hnm hown hK hP hD hS a hc9 hc kf hkN hlink (fun x q => by rw [hsame]; exact q) hfin (hty kf hkN) nr nf (by rw [fvs_len]; exact nth_lt ht) hdg (fun H1 locs1 hP1 hD1 hS1 => ?_)
  rw [← fvs_setR hrO ho hf ht] at hP1 hD1
  exact k _ H1 locs1 la _ h2 hL hl (fun v9 hv9 => hs _ (List.mem_cons_of_mem _ (List.mem_cons_of_mem _ hv9))) hm (Wld_setR hw hrO ho hf hb9) hP1 hD1 hS1 hv
theorem go_putRF (hx : p.tables.exec = Jvm.exec) (hb : c.code = cc) {own ref C : String} {T : u_T} {N ci i kf b : Nat} {f : List Nat} {a : Nat} (hts : ∀ w ∈ lw_g, w.before args s = true) (hin : ∀ w ∈ u_ws C T N, w ∈ lw_g) (hown : s.vm.findClass own = some m.cls) (hK : va_K D vwCl tys s) (hc : vwCl[ci]? = some (C, T, N)) (hf : nth FT ci = some f) (ht : nth f kf = some 2) (hkN : kf < N) (hlink : (Cond.fieldLink own i ref (T kf).2.1 (T kf).2.2.1).before args s = true) (hsame : ref = (T kf).1) (ho : nth S a = some (.inl ci)) (ty0 : Nat → FieldType) (hty : ∀ k, k < N → parseFieldDescriptor (T k).2.2.1 = some (ty0 k)) (hnm : ∀ a, a < N → ∀ b, b < N → a ≠ b → (T a).2.1 ≠ (T b).2.1) (h00 : tyC 2 (ty0 kf) = true) (hrO : rOk S r) (hfin : (T kf).2.2.2 = true) (hin2 : meth.name = "<init>") (hdecl : (T kf).1 = own) (hd : Dc cc pcs j (.putfield i) 3 nx) (k : Go (fun H locs pc la sv => W p l e Rm s m args below meth c H locs (cells) (slots) Q (F0 m pc la sv)) D A tys ad aC nL s pcs (S) (rset r a kf b) (nx) (ls) (st) (h)) : Go (fun H locs pc la sv => W p l e Rm s m args below meth c H locs cells slots Q (F0 m pc la sv)) D A tys ad aC nL s pcs S r (j) (ls) (mR b :: mR a :: st) (h) := by
  intro ws H locs la pc hpc hL hl hs hm hw hP hD hS hv
  obtain ⟨pc0, h1, hdg, h2⟩ := hd
  cases hpc.symm.trans h1
  obtain ⟨f9, hf9, hc9⟩ := hw.2.1 a ci ho
  cases hf.symm.trans hf9
  have hb9 : b < S.length := hs _ List.mem_cons_self
  obtain ⟨nr, nf⟩ := ref_ty (ad b) h00
  refine va_putF (D := D) (v := .ref (ad b)) (ty := ty0 kf) hx hb hts hin ty0 hty hnm hown hK hP hD hS a hc9 hc kf hkN hlink (fun x q => by rw [hsame]; exact q) hfin hin2 hdecl (hty kf hkN) nr nf (by rw [fvs_len]; exact nth_lt ht) hdg (fun H1 locs1 hP1 hD1 hS1 => ?_)
  rw [← fvs_setR hrO ho hf ht] at hP1 hD1
  exact k _ H1 locs1 la _ h2 hL hl (fun v9 hv9 => hs _ (List.mem_cons_of_mem _ (List.mem_cons_of_mem _ hv9))) hm (Wld_setR hw hrO ho hf hb9) hP1 hD1 hS1 hv
theorem go_astq (hx : p.tables.exec = Jvm.exec) (hb : c.code = cc) {a v n ci : Nat} {x : Int} {f : List Nat} (hK : va_K D vwCl tys s) (ho : nth S a = some (.inr (10 + ci, n))) (hvo : nth S v = some (.inl ci)) (g : inA x n) (hrO : rOk S r) (hd : Dc cc pcs j .aastore 1 nx) (k : Go (fun H locs pc la sv => W p l e Rm s m args below meth c H locs (cells) (slots) Q (F0 m pc la sv)) D A tys ad aC nL s pcs (S) (rset r a x.toNat v) (nx) (ls) (st) (h)) : Go (fun H locs pc la sv => W p l e Rm s m args below meth c H locs cells slots Q (F0 m pc la sv)) D A tys ad aC nL s pcs S r (j) (ls) (mR v :: mI x :: mR a :: st) (h) := by
  intro ws H locs la pc hpc hL hl hs hm hw hP hD hS hv
  obtain ⟨pc0, h1, hdg, h2⟩ := hd
  cases hpc.symm.trans h1
  obtain ⟨cA, t0, g1, g2, g3⟩ := hw.2.2.1 a _ _ ho
  obtain ⟨f9, hf9, hc9⟩ := hw.2.1 v ci hvo
  obtain ⟨C, N, hc, -, -, -, -⟩ := vwT_facts hf9
  have hcn : cnm ci = C := by unfold cnm; rw [nth_get, hc]
  obtain ⟨i1, i2⟩ := inA_in (hs _ (List.mem_cons_of_mem _ List.mem_cons_self)) g
  have hv9 : v < S.length := nth_lt hvo
  rw [aty_obj, hcn] at g1
  rw [acn_obj] at g3
  refine va_astq hx hb hK hP hD hS a t0 v ci g3 g1 hc9 hc i1 hdg (fun H1 locs1 hP1 hD1 hS1 => ?_)
  rw [i2] at hP1 hD1
  have e9 := acn_setR (ad := ad) (h := h) (v := v) hrO ho g
  rw [← e9] at hP1 hD1
  exact k _ H1 locs1 la _ h2 hL hl (fun v9 hv9 => hs _ (List.mem_cons_of_mem _ (List.mem_cons_of_mem _ (List.mem_cons_of_mem _ hv9)))) hm (Wld_setA hw hrO ho (by rw [acn_obj]; exact g3) hv9) hP1 hD1 hS1 hv
theorem go_objI (hx : p.tables.exec = Jvm.exec) (hb : c.code = cc) {own : String} {i a : Nat} (hts : ∀ w ∈ lw_g, w.before args s = true) (hown : s.vm.findClass own = some m.cls) (hlink : (Cond.methodLink own i Lib.objectInit).before args s = true) (hml : c.maxLocals = nL) (hR : 1 ≤ Rm.frames ∧ 100 ≤ Rm.locals) (hw8 : wds st ≤ 8) (hd : Dc cc pcs j (.invokespecial i) 3 nx) (k : Go (fun H locs pc la sv => W p l e Rm s m args below meth c H locs (cells) (slots) Q (F0 m pc la sv)) D A tys ad aC nL s pcs (S) (r) (nx) (ls) (st) (h)) : Go (fun H locs pc la sv => W p l e Rm s m args below meth c H locs cells slots Q (F0 m pc la sv)) D A tys ad aC nL s pcs S r (j) (ls) (mR a :: st) (h) := by
  intro ws H locs la pc hpc hL hl hs hm hw hP hD hS hv
  obtain ⟨pc0, h1, hdg, h2⟩ := hd
  cases hpc.symm.trans h1
  refine W.objInit hx hb hown hlink (hts _ obj_inst) (hts _ obj_code) rfl (by rw [hml]; exact hv.1) rfl hdg hR.1 (by
    have q := wds_ok (ad := ad) (aC := aC) st
    show 2 * 0 + ((st.map (rV ad aC)).map fun v => v.category).sum + 12 ≤ _
    rw [q]
    omega) ?_
  exact k _ H locs la _ h2 hL hl (fun v9 hv9 => hs _ (List.mem_cons_of_mem _ hv9)) hm hw hP hD hS hv
theorem go_mna (hMn : MnaR) (hx : p.tables.exec = Jvm.exec) (hb : c.code = cc) {own : String} {i : Nat} {n k0 : Int} (hts : ∀ w ∈ lw_g, w.before args s = true) (hown : s.vm.findClass own = some m.cls) (hK : va_K D vwCl tys s) (hcl : (Cond.classLink own i "[[J").before args s = true) (hAO : sm_AOA .long s) (hA0 : ∀ q, s.heap.size ≤ q → A q) (hrO : r.length = S.length) (g : (0 ≤ n ∧ n ≤ 100) ∧ 0 ≤ k0 ∧ k0 ≤ 100) (hcells : cells + (1 + n.toNat) ≤ Rm.cells) (hslots : slots + (n.toNat + n.toNat * k0.toNat) ≤ Rm.slots) (hd : Dc cc pcs j (.multianewarray i 2) 4 nx) (k : ∀ ad9 : Nat → Nat, (∀ a, a < S.length → ad9 a = ad a) → ∀ tys9, va_K D vwCl tys9 s → Go (fun H locs pc la sv => W p l e Rm s m args below meth c H locs (cells + 1 + n.toNat) (slots + n.toNat + n.toNat * k0.toNat) Q (F0 m pc la sv)) D A tys9 ad9 aC nL s pcs (S ++ (.inr (3, n.toNat) :: List.replicate n.toNat (.inr (1, k0.toNat)))) (r ++ ((List.range n.toNat).map (fun q => some (S.length + 1 + q)) :: List.replicate n.toNat [])) (nx) (ls) (mR S.length :: st) (h)) : Go (fun H locs pc la sv => W p l e Rm s m args below meth c H locs cells slots Q (F0 m pc la sv)) D A tys ad aC nL s pcs S r (j) (ls) (mI k0 :: mI n :: st) (h) := by
  intro ws H locs la pc hpc hL hl hs hm hw hP hD hS hv
  obtain ⟨pc0, h1, hdg, h2⟩ := hd
  cases hpc.symm.trans h1
  have hk9 : inI k0 := hs _ List.mem_cons_self
  have hn9 : inI n := hs _ (List.mem_cons_of_mem _ List.mem_cons_self)
  have harr : (Cond.arrayClass .long).before args s = true := hts _ (mem_g (by decide +kernel) rfl)
  obtain ⟨cy, kA, comp, hcy, hky, hkind⟩ := Cond.arrayClass_spec harr
  have hKc : va_K D vwCl [(cy, .long)] s := ⟨hK.1, fun k x hx => by
    have hz : k < 1 := (List.getElem?_eq_some_iff.mp hx).1
    rw [show k = 0 by omega] at hx
    cases hx
    exact ⟨fun N z => ⟨fun k h => (by cases h), kA, hky, comp, hkind⟩, hcy⟩⟩
  refine hMn ws (cy := cy) hx hb hown hcl hAO harr hcy hK (by rw [show ws ++ va_pl [] _ = ws from List.append_nil ws]; exact hP) (by rw [show ws ++ va_pl [] _ = ws from List.append_nil ws]; exact hD) hS hA0 (nneg hn9 g.1.1) (nneg hk9 g.2.1) (clampN hn9) (clampN hk9) (by omega) (by show k0.toNat * 8 ≤ _; omega) (by omega) hcells hslots hdg (fun q rr cA H1 hinj _ hK1 hP1 hD1 hS1 => ?_)
  rw [List.nil_append, List.append_assoc] at hP1 hD1
  have hK9 := va_K.app hK1 hKc
  rw [List.append_assoc] at hK9
  have hs9 : ∀ v ∈ st, vOk S.length v := fun v9 hv9 => hs _ (List.mem_cons_of_mem _ (List.mem_cons_of_mem _ hv9))
  have k9 := k (adM ad S.length q rr) (fun a ha => adM_ag ha) _ hK9 _ H1 locs la _ h2 hL (fun v9 hv9 => vOk_mono (by simp) (hl _ hv9)) (fun v9 hv9 => by rcases List.mem_cons.mp hv9 with rfl | hv9; exact (show S.length < _ by simp); exact vOk_mono (by simp) (hs _ (List.mem_cons_of_mem _ (List.mem_cons_of_mem _ hv9)))) (mOk_app hm) (Wld_mna hw hrO g.1.2 g.2.2 (hm.2.2 · · ·)) hP1 hD1 hS1 (by rw [asc_ag (fun a ha => adM_ag ha) hl]; exact hv)
  rw [List.map_cons, map_ag (fun a ha => adM_ag ha) hs9, show rV (adM ad S.length q rr) aC (mR S.length) = .ref q by show Value.ref (adM ad S.length q rr S.length) = _; rw [adM_at]] at k9
  exact k9
end
