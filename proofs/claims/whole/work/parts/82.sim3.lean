/-! SIM 3: constants, copies, Math, switches -/
/-- the world where the numbers of one array changed -/
theorem Wld_at {tys : List (ClassId × FieldType)} {ws : va_W} {ad : Nat → Nat} {S : mSh} {r : mRf} {h h' : mM} {b t n cA : Nat} (hw : Wld tys ws ad S r h) (hb : nth S b = some (.inr (t, n))) (hcl : ws[b]? = some (ad b, .inl (cA, n, acn ad r h b t))) (he : ∀ c k, c ≠ b → h' c k = h c k) : Wld tys (ws.set b (ad b, .inl (cA, n, acn ad r h' b t))) ad S r h' := by
  obtain ⟨h1, h2, h3, h4⟩ := hw
  have hl := (List.getElem?_eq_some_iff.mp hcl).1
  refine ⟨by rw [List.length_set]; exact h1, fun c ci hc => ?_, fun c t' n' hc => ?_, h4⟩
  · have hne : c ≠ b := fun q => by subst q; rw [hb] at hc; cases hc
    obtain ⟨f, hf, hq⟩ := h2 c ci hc
    exact ⟨f, hf, by rw [List.getElem?_set_ne (Ne.symm hne), hq, fvs_congr (fun k => he c k hne)]⟩
  · by_cases hne : c = b
    · subst hne
      rw [hb] at hc
      cases hc
      obtain ⟨cA', t0, g1, g2, g3⟩ := h3 c _ _ hb
      rw [hcl] at g3
      cases g3
      exact ⟨_, t0, g1, g2, by rw [List.getElem?_set_self hl]⟩
    · obtain ⟨cA', t0, g1, g2, g3⟩ := h3 c t' n' hc
      exact ⟨cA', t0, g1, g2, by rw [List.getElem?_set_ne (Ne.symm hne), g3, acn_congr (fun k => he c k hne)]⟩
theorem mCpy_ne {h : mM} {a b c : Nat} {i j n k : Int} (hc : c ≠ b) : mCpy h a i b j n c k = h c k := by
  unfold mCpy
  rw [if_neg (fun q => hc q.1)]
theorem mCpyC_ne {h : mM} {l : List Int} {b c : Nat} {i j n k : Int} (hc : c ≠ b) : mCpyC h l i b j n c k = h c k := by
  unfold mCpyC
  rw [if_neg (fun q => hc q.1)]
theorem cpyI {h : mM} {a b : Nat} {x y n : Int} (g : 0 ≤ n ∧ 0 ≤ x ∧ 0 ≤ y) : va_cpy (fun j : Nat => Int32.ofInt (h a (j : Int))) (fun j : Nat => Int32.ofInt (h b (j : Int))) x.toNat y.toNat n.toNat = fun j : Nat => Int32.ofInt (mCpy h a x b y n b (j : Int)) := by
  funext k
  unfold va_cpy mCpy
  by_cases e : y.toNat ≤ k ∧ k < y.toNat + n.toNat
  · have q : ((x.toNat + (k - y.toNat) : Nat) : Int) = x + ((k : Int) - y) := by omega
    rw [if_pos e, if_pos ⟨rfl, by omega, by omega⟩, ← q]
  · rw [if_neg e, if_neg (fun q => e (by omega))]
theorem cpyL {h : mM} {a b : Nat} {x y n : Int} (g : 0 ≤ n ∧ 0 ≤ x ∧ 0 ≤ y) : va_cpy (fun j : Nat => Int64.ofInt (h a (j : Int))) (fun j : Nat => Int64.ofInt (h b (j : Int))) x.toNat y.toNat n.toNat = fun j : Nat => Int64.ofInt (mCpy h a x b y n b (j : Int)) := by
  funext k
  unfold va_cpy mCpy
  by_cases e : y.toNat ≤ k ∧ k < y.toNat + n.toNat
  · have q : ((x.toNat + (k - y.toNat) : Nat) : Int) = x + ((k : Int) - y) := by omega
    rw [if_pos e, if_pos ⟨rfl, by omega, by omega⟩, ← q]
  · rw [if_neg e, if_neg (fun q => e (by omega))]
theorem cpyC {h : mM} {lk : List Int} {b : Nat} {x y n : Int} (g : 0 ≤ n ∧ 0 ≤ x ∧ 0 ≤ y) : va_cpy (fun j : Nat => Int32.ofInt ((nth lk j).getD 0)) (fun j : Nat => Int32.ofInt (h b (j : Int))) x.toNat y.toNat n.toNat = fun j : Nat => Int32.ofInt (mCpyC h lk x b y n b (j : Int)) := by
  funext k
  unfold va_cpy mCpyC
  by_cases e : y.toNat ≤ k ∧ k < y.toNat + n.toNat
  · rw [if_pos e, if_pos ⟨rfl, by omega, by omega⟩]
    congr 3
    omega
  · rw [if_neg e, if_neg (fun q => e (by omega))]
theorem isL_arr {S : mSh} {a t n : Nat} {k : Int} (h : nth S a = some (.inr (t, n))) (ht : t ≠ 1) : isL S a k = false := by
  unfold isL
  rw [h]
  split
  · next q => cases q
  · next q => cases q; exact absurd rfl ht
  · rfl
theorem isL_arr1 {S : mSh} {a n : Nat} {k : Int} (h : nth S a = some (.inr (1, n))) : isL S a k = true := by
  unfold isL
  rw [h]
  rfl
theorem mOk_cpy {S : mSh} {h : mM} {a b t na nb : Nat} {x y n : Int} (hm : mOk S h) (ha : nth S a = some (.inr (t, na))) (hb : nth S b = some (.inr (t, nb))) : mOk S (mCpy h a x b y n) := by
  refine ⟨fun c k => ?_, fun c k hc => ?_, fun c k hc => by rw [mCpy_ne (by have := nth_lt hb; omega)]; exact hm.2.2 c k hc⟩
  · unfold mCpy
    split
    · exact hm.1 _ _
    · exact hm.1 _ _
  · unfold mCpy
    split
    · next q =>
      refine hm.2.1 _ _ ?_
      by_cases ht : t = 1
      · subst ht
        rw [q.1, isL_arr1 hb] at hc
        cases hc
      · exact isL_arr ha ht
    · exact hm.2.1 _ _ hc
theorem cOk {lk : List Int} (h : ∀ v ∈ lk, inI v) (j : Nat) : inI ((nth lk j).getD 0) := by
  cases q : nth lk j with
  | none => exact ⟨by simp, by simp⟩
  | some v => exact h v (nth_mem q)
theorem mOk_cpyC {S : mSh} {h : mM} {lk : List Int} {b : Nat} {x y n : Int} (hm : mOk S h) (hb : b < S.length) (hk : ∀ v ∈ lk, inI v) : mOk S (mCpyC h lk x b y n) := by
  refine ⟨fun c k => ?_, fun c k hc => ?_, fun c k hc => by rw [mCpyC_ne (by omega)]; exact hm.2.2 c k hc⟩
  · unfold mCpyC
    split
    · exact inL_of (cOk hk _)
    · exact hm.1 _ _
  · unfold mCpyC
    split
    · exact cOk hk _
    · exact hm.2.1 _ _ hc
theorem nneg {x : Int} (hx : inI x) (h : 0 ≤ x) : ¬ Int32.ofInt x < 0 := fun q => by
  have := (i32_lt hx (y := 0) (by omega)).mp q
  omega
theorem clampN {x : Int} (hx : inI x) : (Int32.ofInt x).toNatClampNeg = x.toNat := by
  show (Int32.ofInt x).toInt.toNat = x.toNat
  rw [i32_of hx]
theorem max32 {x y : Int} (hx : inI x) (hy : inI y) : Int32.ofInt (max x y) = if Int32.ofInt x < Int32.ofInt y then Int32.ofInt y else Int32.ofInt x := by
  by_cases h : x < y
  · rw [if_pos ((i32_lt hx hy).mpr h), Int.max_def, if_pos (by omega)]
  · rw [if_neg (fun q => h ((i32_lt hx hy).mp q)), Int.max_def]
    split
    · congr 1; omega
    · rfl
theorem min32 {x y : Int} (hx : inI x) (hy : inI y) : Int32.ofInt (min x y) = if Int32.ofInt y < Int32.ofInt x then Int32.ofInt y else Int32.ofInt x := by
  by_cases h : y < x
  · rw [if_pos ((i32_lt hy hx).mpr h), Int.min_def, if_neg (by omega)]
  · rw [if_neg (fun q => h ((i32_lt hy hx).mp q)), Int.min_def, if_pos (by omega)]
theorem abs32 {x : Int} (hx : inI x) : Int32.ofInt (if x < 0 then -x else x) = if 0 ≤ Int32.ofInt x then Int32.ofInt x else 0 - Int32.ofInt x := by
  by_cases h : x < 0
  · rw [if_pos h, if_neg (fun q : (0 : Int32) ≤ _ => by have := (i32_le (x := 0) (by omega) hx).mp q; omega), Int32.ofInt_neg]
    simp
  · rw [if_neg h, if_pos (show (0 : Int32) ≤ _ from (i32_le (x := 0) (by omega) hx).mpr (by omega))]
theorem max64 {x y : Int} (hx : inL x) (hy : inL y) : Int64.ofInt (max x y) = if Int64.ofInt y < Int64.ofInt x then Int64.ofInt x else Int64.ofInt y := by
  by_cases h : y < x
  · rw [if_pos ((i64_lt hy hx).mpr h), Int.max_def, if_neg (by omega)]
  · rw [if_neg (fun q => h ((i64_lt hy hx).mp q)), Int.max_def, if_pos (by omega)]
/-- a table of whole numbers that stands fixed -/
def Tab (ct : Nat → List Int) (aC : Nat → Nat) (A : Nat → Prop) (k : Nat) (U : State) (H : Heap) : Prop := va_T .int (aC k) (ct k).length (fun j => .int (Int32.ofInt ((nth (ct k) j).getD 0))) A U H
theorem mk_copyT {p : Program} {l : Launch} {e : Env} {R : Room} {s : State} {m : MethodId} {args : Array Value} {below : List Frame} {meth : Method} {c : Code} {H : Heap} {locs : List Loc} {cells slots : Nat} {Q : State → Prop} {cc : ByteArray} {pc : Nat} {ls : Array Slot} {rest : List Value} {D : va_G} {cl : List vw_C} {A : Nat → Prop} {a : Nat} {tys : List (ClassId × FieldType)} {ws : va_W} (hexec : p.tables.exec = Jvm.exec) (hb : c.code = cc) (hml : c.maxLocals = ls.size) {own : String} {index : Nat} (hown : s.vm.findClass own = some m.cls) (hlink : (Cond.methodLink own index arraycopyName).before args s = true) (hnat : (Cond.native arraycopyName).before args s = true) (hstat : (Cond.static arraycopyName).before args s = true) (hini : (Cond.initialized "java/lang/System").before args s = true)
    (hK : va_K D cl tys s) (hP : va_P D cl ws H) (hD : va_D A ws) (hS : va_S A s.heap H locs) {b0 n0 : Nat} {f : Nat → Int32} (hX : va_T .int b0 n0 (fun j => .int (f j)) A s s.heap) (q1 t1 : Nat) {c1 : ClassId} {n1 : Nat} {g : Nat → Int32} (ha1 : ws[q1]? = some (a, .inl (c1, n1, .inl g))) (ht1 : tys[t1]? = some (c1, .int))
    {sp dp n : Int32} (h1 : ¬ sp < 0) (h2 : ¬ dp < 0) (h3 : ¬ n < 0) (h4 : sp.toNatClampNeg + n.toNatClampNeg ≤ n0) (h5 : dp.toNatClampNeg + n.toNatClampNeg ≤ n1)
    (hframes : 1 ≤ R.frames) (hlocals : (rest.map fun v => v.category).sum + (nativeFrameWords "java/lang/System" "arraycopy" 5 + 11) ≤ R.locals) (hdg : decode cc pc = .ok (.invokestatic index, 3))
    (kk : ∀ (H1 : Heap) (locs1 : List Loc), va_P D cl (ws.set q1 (a, .inl (c1, n1, .inl (va_cpy f g sp.toNatClampNeg dp.toNatClampNeg n.toNatClampNeg)))) H1 → va_D A (ws.set q1 (a, .inl (c1, n1, .inl (va_cpy f g sp.toNatClampNeg dp.toNatClampNeg n.toNatClampNeg)))) → va_S A s.heap H1 locs1 → W p l e R s m args below meth c H1 locs1 cells slots Q (F0 m (pc + 3) ls rest)) : W p l e R s m args below meth c H locs cells slots Q (F0 m pc ls (.int n :: .int dp :: .ref a :: .int sp :: .ref b0 :: rest)) := by
  have nn : ∀ z : Int32, ¬ z < 0 → z.toInt = (z.toNatClampNeg : Int) := by
    intro z hz
    have hz0 : (0 : Int) ≤ z.toInt := Int32.le_iff_toInt_le.mp (Int32.not_lt.mp hz)
    show z.toInt = ((z.toInt.toNat : Nat) : Int)
    omega
  intro T hT X
  obtain ⟨src, s1, s2, s3, s4, -, s5, s6⟩ := hX
  have hc0 : H[b0]? = some src := (hS.2.1 b0 (Array.getElem?_eq_some_iff.mp s1).1 s6).trans s1
  have hc1 : H[a]? = some (vp_cell c1 (n1, .inl g)) := hP q1 _ ha1
  obtain ⟨u1, k0, u2, cm0, u3⟩ := s2
  obtain ⟨-, k1, u4, cm1, u5⟩ := (hK.2 t1 _ ht1).1 n1 (fun j => .int (g j))
  obtain ⟨vm', X', step⟩ := X.arraycopy hexec hown hlink hnat hstat hini (src := b0) (dst := a) (cs := src) (cd := vp_cell c1 (n1, .inl g)) (srcPos := sp) (destPos := dp) (n := n) (by rw [hT]; exact hc0) (by rw [hT]; exact hc1)
    u1 (fun _ h => by cases h) s3 (fun h => by cases h) u2 u4 u3 u5 (by simp [refKind]) h1 h2 h3
    (by rw [nn sp h1, nn n h3]; omega)
    (by rw [nn dp h2, nn n h3]; show ¬ _ > ((arrV c1 n1 (fun j => .int (g j))).slots.size : Int); rw [arrV_size]; omega)
    (fun vm₁ _ i hi => by
      have e : src.slots.getD (sp.toNatClampNeg + i) .null = .int (f (sp.toNatClampNeg + i)) := by
        rw [Array.getD_eq_getD_getElem?, s5 _ (by omega)]
        rfl
      rw [e]
      exact ⟨rfl, trivial⟩)
    (g := F0 m pc ls (.int n :: .int dp :: .ref a :: .int sp :: .ref b0 :: rest)) rfl (by rw [hml]) (rest := rest) rfl (by rw [hb]; exact hdg) hframes (by show 2 * 0 + _ + _ ≤ _; omega)
  have e1 : copied src (vp_cell c1 (n1, .inl g)) sp dp n = vp_cell c1 (n1, .inl (va_cpy f g sp.toNatClampNeg dp.toNatClampNeg n.toNatClampNeg)) := va_copiedX (fun z => .int z) src c1 f g s5 h4
  rw [e1] at X' step
  have hl : a < H.size := (Array.getElem?_eq_some_iff.mp hc1).1
  have hheap : ((T.setVm vm').setCell a (vp_cell c1 (n1, .inl (va_cpy f g sp.toNatClampNeg dp.toNatClampNeg n.toNatClampNeg)))).heap = H.setIfInBounds a (vp_cell c1 (n1, .inl (va_cpy f g sp.toNatClampNeg dp.toNatClampNeg n.toNatClampNeg))) := by rw [← hT]; rfl
  have oq : ∀ q : Nat, q ≠ a → (H.setIfInBounds a (vp_cell c1 (n1, .inl (va_cpy f g sp.toNatClampNeg dp.toNatClampNeg n.toNatClampNeg))))[q]? = H[q]? := fun q hq => by simp [Array.getElem?_setIfInBounds, Ne.symm hq]
  obtain ⟨t, a1, b1⟩ := kk _ _ (hP.set hD ha1 (show (H.setIfInBounds a _)[a]? = some _ by simp [Array.getElem?_setIfInBounds, hl]) oq) (hD.set ha1) ⟨by simp; exact hS.1, fun q g1 g2 => by
      rw [oq q (fun e => g2 (by rw [e]; exact hD.2 q1 _ ha1))]
      exact hS.2.1 q g1 g2, fun q hq => by
      rcases List.mem_append.mp hq with h | h
      · exact hS.2.2 q h
      · obtain ⟨z, -, hz⟩ := List.mem_map.mp h
        rw [← hz]
        exact hD.2 q1 _ ha1⟩ _ hheap X'
  exact ⟨t, step t a1, b1⟩
section
variable {p : Program} {l : Launch} {e : Env} {Rm : Room} {s : State} {m : MethodId} {args : Array Value} {below : List Frame} {meth : Method} {c : Code} {cc : ByteArray} {D : va_G} {A : Nat → Prop} {tys : List (ClassId × FieldType)} {ad aC : Nat → Nat} {nL cells slots : Nat} {Q : State → Prop} {pcs : List Nat} {S : mSh} {r : mRf} {j nx : Nat} {ls st : List mv} {h : mM}
theorem go_cload (hx : p.tables.exec = Jvm.exec) (hb : c.code = cc) {ct : Nat → List Int} {x : Int} {k0 : Nat} (hT : Tab ct aC A k0 s s.heap) (hc0 : ∀ v ∈ ct k0, inI v) (g : inA x (ct k0).length) (hd : Dc cc pcs j .iaload 1 nx) (k : Go (fun H locs pc la sv => W p l e Rm s m args below meth c H locs cells slots Q (F0 m pc la sv)) D A tys ad aC nL s pcs S r (nx) (ls) (mI ((nth (ct k0) x.toNat).getD 0) :: st) (h)) : Go (fun H locs pc la sv => W p l e Rm s m args below meth c H locs cells slots Q (F0 m pc la sv)) D A tys ad aC nL s pcs S r (j) (ls) (mI x :: mC k0 :: st) (h) := by
  intro ws H locs la pc hpc hL hl hs hm hw hP hD hS hv
  obtain ⟨pc0, h1, hdg, h2⟩ := hd
  cases hpc.symm.trans h1
  obtain ⟨i1, i2⟩ := inA_in (hs _ List.mem_cons_self) g
  have k9 := k ws H locs la _ h2 hL hl (fun v9 hv9 => by rcases List.mem_cons.mp hv9 with rfl | hv9; exact (cOk hc0 _); exact hs _ (List.mem_cons_of_mem _ (List.mem_cons_of_mem _ hv9))) hm hw hP hD hS hv
  exact va_ti hx hb hT hS i1 (by rw [i2]; rfl) hdg k9
theorem go_clen (hx : p.tables.exec = Jvm.exec) (hb : c.code = cc) {ct : Nat → List Int} {k0 : Nat} (hT : Tab ct aC A k0 s s.heap) (hc0 : (ct k0).length < 2147483648) (hd : Dc cc pcs j .arraylength 1 nx) (k : Go (fun H locs pc la sv => W p l e Rm s m args below meth c H locs cells slots Q (F0 m pc la sv)) D A tys ad aC nL s pcs S r (nx) (ls) (mI ((ct k0).length : Int) :: st) (h)) : Go (fun H locs pc la sv => W p l e Rm s m args below meth c H locs cells slots Q (F0 m pc la sv)) D A tys ad aC nL s pcs S r (j) (ls) (mC k0 :: st) (h) := by
  intro ws H locs la pc hpc hL hl hs hm hw hP hD hS hv
  obtain ⟨pc0, h1, hdg, h2⟩ := hd
  cases hpc.symm.trans h1
  have k9 := k ws H locs la _ h2 hL hl (fun v9 hv9 => by rcases List.mem_cons.mp hv9 with rfl | hv9; exact (⟨by omega, by omega⟩ : inI ((ct k0).length : Int)); exact hs _ (List.mem_cons_of_mem _ hv9)) hm hw hP hD hS hv
  exact va_tlen hx hb hT hS (by rw [Int32.ofInt_eq_ofNat]) hdg k9
theorem go_gets (hx : p.tables.exec = Jvm.exec) (hb : c.code = cc) {C n d own : String} {i k0 : Nat} (hZ : va_Z C n d (.ref (aC k0)) A s s.heap) (hown : s.vm.findClass own = some m.cls) (hl9 : (Cond.fieldLink own i C n d).before args s = true) (hd : Dc cc pcs j (.getstatic i) 3 nx) (k : Go (fun H locs pc la sv => W p l e Rm s m args below meth c H locs cells slots Q (F0 m pc la sv)) D A tys ad aC nL s pcs S r (nx) (ls) (mC k0 :: st) (h)) : Go (fun H locs pc la sv => W p l e Rm s m args below meth c H locs cells slots Q (F0 m pc la sv)) D A tys ad aC nL s pcs S r (j) (ls) (st) (h) := by
  intro ws H locs la pc hpc hL hl hs hm hw hP hD hS hv
  obtain ⟨pc0, h1, hdg, h2⟩ := hd
  cases hpc.symm.trans h1
  exact va_gets hx hb hZ hS hown hl9 (fun x q => q) hdg (k ws H locs la _ h2 hL hl (fun v9 hv9 => by rcases List.mem_cons.mp hv9 with rfl | hv9; exact trivial; exact hs _ hv9) hm hw hP hD hS hv)
theorem go_getsN (hx : p.tables.exec = Jvm.exec) (hb : c.code = cc) {C n d own host : String} {i k0 : Nat} (hZ : va_Z C n d (.ref (aC k0)) A s s.heap) (hown : s.vm.findClass own = some m.cls) (hl9 : (Cond.fieldLinkNest own i C n d host).before args s = true) (hd : Dc cc pcs j (.getstatic i) 3 nx) (k : Go (fun H locs pc la sv => W p l e Rm s m args below meth c H locs cells slots Q (F0 m pc la sv)) D A tys ad aC nL s pcs S r (nx) (ls) (mC k0 :: st) (h)) : Go (fun H locs pc la sv => W p l e Rm s m args below meth c H locs cells slots Q (F0 m pc la sv)) D A tys ad aC nL s pcs S r (j) (ls) (st) (h) := by
  intro ws H locs la pc hpc hL hl hs hm hw hP hD hS hv
  obtain ⟨pc0, h1, hdg, h2⟩ := hd
  cases hpc.symm.trans h1
  exact va_getsN hx hb hZ hS hown hl9 (fun x q => q) hdg (k ws H locs la _ h2 hL hl (fun v9 hv9 => by rcases List.mem_cons.mp hv9 with rfl | hv9; exact trivial; exact hs _ hv9) hm hw hP hD hS hv)
theorem go_ldcS (hx : p.tables.exec = Jvm.exec) (hb : c.code = cc) {own tx : String} {i k0 : Nat} (hZ : vk_R own i tx (aC k0) s) (hown : s.vm.findClass own = some m.cls) (hd : Dc cc pcs j (.ldc i) 2 nx) (k : Go (fun H locs pc la sv => W p l e Rm s m args below meth c H locs cells slots Q (F0 m pc la sv)) D A tys ad aC nL s pcs S r (nx) (ls) (mC k0 :: st) (h)) : Go (fun H locs pc la sv => W p l e Rm s m args below meth c H locs cells slots Q (F0 m pc la sv)) D A tys ad aC nL s pcs S r (j) (ls) (st) (h) := by
  intro ws H locs la pc hpc hL hl hs hm hw hP hD hS hv
  obtain ⟨pc0, h1, hdg, h2⟩ := hd
  cases hpc.symm.trans h1
  exact va_ldcS hx hb hown hZ hdg (k ws H locs la _ h2 hL hl (fun v9 hv9 => by rcases List.mem_cons.mp hv9 with rfl | hv9; exact trivial; exact hs _ hv9) hm hw hP hD hS hv)
theorem go_copyI (hx : p.tables.exec = Jvm.exec) (hb : c.code = cc) {own : String} {i : Nat} (hown : s.vm.findClass own = some m.cls) (hlink : (Cond.methodLink own i arraycopyName).before args s = true) (hnat : (Cond.native arraycopyName).before args s = true) (hstat : (Cond.static arraycopyName).before args s = true) (hini : (Cond.initialized "java/lang/System").before args s = true) (hml : c.maxLocals = nL) (hK : va_K D vwCl tys s) (hR : 1 ≤ Rm.frames ∧ 100 ≤ Rm.locals ∧ cells ≤ Rm.cells ∧ slots ≤ Rm.slots) (hw8 : wds st ≤ 8) {a b na nb : Nat} {x y n : Int} (ha : nth S a = some (.inr (0, na))) (hb0 : nth S b = some (.inr (0, nb))) (g : (0 ≤ n ∧ 0 ≤ x ∧ 0 ≤ y) ∧ x + n ≤ (na : Int) ∧ y + n ≤ (nb : Int)) (hd : Dc cc pcs j (.invokestatic i) 3 nx) (k : Go (fun H locs pc la sv => W p l e Rm s m args below meth c H locs cells slots Q (F0 m pc la sv)) D A tys ad aC nL s pcs S r (nx) (ls) (st) (mCpy h a x b y n)) : Go (fun H locs pc la sv => W p l e Rm s m args below meth c H locs cells slots Q (F0 m pc la sv)) D A tys ad aC nL s pcs S r (j) (ls) (mI n :: mI y :: mR b :: mI x :: mR a :: st) (h) := by
  intro ws H locs la pc hpc hL hl hs hm hw hP hD hS hv
  obtain ⟨pc0, h1, hdg, h2⟩ := hd
  cases hpc.symm.trans h1
  obtain ⟨cA, t0, g1, g2, g3⟩ := hw.2.2.1 a _ _ ha
  obtain ⟨cB, t1, f1, f2, f3⟩ := hw.2.2.1 b _ _ hb0
  have hn9 : inI n := hs _ List.mem_cons_self
  have hy9 : inI y := hs _ (List.mem_cons_of_mem _ List.mem_cons_self)
  have hx9 : inI x := hs _ (List.mem_cons_of_mem _ (List.mem_cons_of_mem _ (List.mem_cons_of_mem _ List.mem_cons_self)))
  have e9 := cpyI (h := h) (a := a) (b := b) g.1
  refine va_copyi hx hb (hml.trans hv.1.symm) hown hlink hnat hstat hini hK hP hD hS a b t0 t1 g3 f3 g1 f1 rfl (nneg hx9 g.1.2.1) (nneg hy9 g.1.2.2) (nneg hn9 g.1.1) (by rw [clampN hx9, clampN hn9]; omega) (by rw [clampN hy9, clampN hn9]; omega) (fun _ _ => rfl) hR.1 (by
    have q := wds_ok (ad := ad) (aC := aC) st
    rw [q]
    have q2 : nativeFrameWords "java/lang/System" "arraycopy" 5 + 11 ≤ 92 := by decide +kernel
    omega) hdg (fun H1 locs1 hP1 hD1 hS1 => ?_)
  rw [clampN hx9, clampN hy9, clampN hn9, e9] at hP1 hD1
  exact k _ H1 locs1 la _ h2 hL hl (fun v9 hv9 => hs _ (by revert hv9; simp only [List.mem_cons]; grind)) (mOk_cpy hm ha hb0) (Wld_at hw hb0 f3 (fun c k q => mCpy_ne q)) hP1 hD1 hS1 hv
theorem go_copyL (hx : p.tables.exec = Jvm.exec) (hb : c.code = cc) {own : String} {i : Nat} (hown : s.vm.findClass own = some m.cls) (hlink : (Cond.methodLink own i arraycopyName).before args s = true) (hnat : (Cond.native arraycopyName).before args s = true) (hstat : (Cond.static arraycopyName).before args s = true) (hini : (Cond.initialized "java/lang/System").before args s = true) (hml : c.maxLocals = nL) (hK : va_K D vwCl tys s) (hR : 1 ≤ Rm.frames ∧ 100 ≤ Rm.locals ∧ cells ≤ Rm.cells ∧ slots ≤ Rm.slots) (hw8 : wds st ≤ 8) {a b na nb : Nat} {x y n : Int} (ha : nth S a = some (.inr (1, na))) (hb0 : nth S b = some (.inr (1, nb))) (g : (0 ≤ n ∧ 0 ≤ x ∧ 0 ≤ y) ∧ x + n ≤ (na : Int) ∧ y + n ≤ (nb : Int)) (hd : Dc cc pcs j (.invokestatic i) 3 nx) (k : Go (fun H locs pc la sv => W p l e Rm s m args below meth c H locs cells slots Q (F0 m pc la sv)) D A tys ad aC nL s pcs S r (nx) (ls) (st) (mCpy h a x b y n)) : Go (fun H locs pc la sv => W p l e Rm s m args below meth c H locs cells slots Q (F0 m pc la sv)) D A tys ad aC nL s pcs S r (j) (ls) (mI n :: mI y :: mR b :: mI x :: mR a :: st) (h) := by
  intro ws H locs la pc hpc hL hl hs hm hw hP hD hS hv
  obtain ⟨pc0, h1, hdg, h2⟩ := hd
  cases hpc.symm.trans h1
  obtain ⟨cA, t0, g1, g2, g3⟩ := hw.2.2.1 a _ _ ha
  obtain ⟨cB, t1, f1, f2, f3⟩ := hw.2.2.1 b _ _ hb0
  have hn9 : inI n := hs _ List.mem_cons_self
  have hy9 : inI y := hs _ (List.mem_cons_of_mem _ List.mem_cons_self)
  have hx9 : inI x := hs _ (List.mem_cons_of_mem _ (List.mem_cons_of_mem _ (List.mem_cons_of_mem _ List.mem_cons_self)))
  have e9 := cpyL (h := h) (a := a) (b := b) g.1
  refine va_copyl hx hb (hml.trans hv.1.symm) hown hlink hnat hstat hini hK hP hD hS a b t0 t1 g3 f3 g1 f1 rfl (nneg hx9 g.1.2.1) (nneg hy9 g.1.2.2) (nneg hn9 g.1.1) (by rw [clampN hx9, clampN hn9]; omega) (by rw [clampN hy9, clampN hn9]; omega) (fun _ _ => rfl) hR.1 (by
    have q := wds_ok (ad := ad) (aC := aC) st
    rw [q]
    have q2 : nativeFrameWords "java/lang/System" "arraycopy" 5 + 11 ≤ 92 := by decide +kernel
    omega) hdg (fun H1 locs1 hP1 hD1 hS1 => ?_)
  rw [clampN hx9, clampN hy9, clampN hn9, e9] at hP1 hD1
  exact k _ H1 locs1 la _ h2 hL hl (fun v9 hv9 => hs _ (by revert hv9; simp only [List.mem_cons]; grind)) (mOk_cpy hm ha hb0) (Wld_at hw hb0 f3 (fun c k q => mCpy_ne q)) hP1 hD1 hS1 hv
theorem go_copyC (hx : p.tables.exec = Jvm.exec) (hb : c.code = cc) {own : String} {i : Nat} (hown : s.vm.findClass own = some m.cls) (hlink : (Cond.methodLink own i arraycopyName).before args s = true) (hnat : (Cond.native arraycopyName).before args s = true) (hstat : (Cond.static arraycopyName).before args s = true) (hini : (Cond.initialized "java/lang/System").before args s = true) (hml : c.maxLocals = nL) (hK : va_K D vwCl tys s) (hR : 1 ≤ Rm.frames ∧ 100 ≤ Rm.locals ∧ cells ≤ Rm.cells ∧ slots ≤ Rm.slots) (hw8 : wds st ≤ 8) {ct : Nat → List Int} {k0 b nb : Nat} {x y n : Int} (hT : Tab ct aC A k0 s s.heap) (hc0 : ∀ v ∈ ct k0, inI v) (hb0 : nth S b = some (.inr (0, nb))) (g : (0 ≤ n ∧ 0 ≤ x ∧ 0 ≤ y) ∧ x + n ≤ ((ct k0).length : Int) ∧ y + n ≤ (nb : Int)) (hd : Dc cc pcs j (.invokestatic i) 3 nx) (k : Go (fun H locs pc la sv => W p l e Rm s m args below meth c H locs cells slots Q (F0 m pc la sv)) D A tys ad aC nL s pcs S r (nx) (ls) (st) (mCpyC h (ct k0) x b y n)) : Go (fun H locs pc la sv => W p l e Rm s m args below meth c H locs cells slots Q (F0 m pc la sv)) D A tys ad aC nL s pcs S r (j) (ls) (mI n :: mI y :: mR b :: mI x :: mC k0 :: st) (h) := by
  intro ws H locs la pc hpc hL hl hs hm hw hP hD hS hv
  obtain ⟨pc0, h1, hdg, h2⟩ := hd
  cases hpc.symm.trans h1
  obtain ⟨cB, t1, f1, f2, f3⟩ := hw.2.2.1 b _ _ hb0
  have hn9 : inI n := hs _ List.mem_cons_self
  have hy9 : inI y := hs _ (List.mem_cons_of_mem _ List.mem_cons_self)
  have hx9 : inI x := hs _ (List.mem_cons_of_mem _ (List.mem_cons_of_mem _ (List.mem_cons_of_mem _ List.mem_cons_self)))
  have e9 := cpyC (h := h) (lk := ct k0) (b := b) g.1
  refine mk_copyT (b0 := aC k0) hx hb (hml.trans hv.1.symm) hown hlink hnat hstat hini hK hP hD hS hT b t1 f3 f1 (nneg hx9 g.1.2.1) (nneg hy9 g.1.2.2) (nneg hn9 g.1.1) (by rw [clampN hx9, clampN hn9]; omega) (by rw [clampN hy9, clampN hn9]; omega) hR.1 (by
    have q := wds_ok (ad := ad) (aC := aC) st
    rw [q]
    have q2 : nativeFrameWords "java/lang/System" "arraycopy" 5 + 11 ≤ 92 := by decide +kernel
    omega) hdg (fun H1 locs1 hP1 hD1 hS1 => ?_)
  rw [clampN hx9, clampN hy9, clampN hn9, e9] at hP1 hD1
  exact k _ H1 locs1 la _ h2 hL hl (fun v9 hv9 => hs _ (by revert hv9; simp only [List.mem_cons]; grind)) (mOk_cpyC hm (nth_lt hb0) hc0) (Wld_at hw hb0 f3 (fun c k q => mCpyC_ne q)) hP1 hD1 hS1 hv
theorem go_max (hx : p.tables.exec = Jvm.exec) (hb : c.code = cc) {own : String} {i : Nat} (hown : s.vm.findClass own = some m.cls) (hlink : (Cond.methodLink own i Lib.Math.max.name).before args s = true) (hstat : (Cond.static Lib.Math.max.name).before args s = true) (hini : (Cond.initialized "java/lang/Math").before args s = true) (hcode : (Cond.code Lib.Math.max.name Lib.Math.max.code 2 (some .int)).before args s = true) (hml : c.maxLocals = nL) (hR : 1 ≤ Rm.frames ∧ 100 ≤ Rm.locals ∧ cells ≤ Rm.cells ∧ slots ≤ Rm.slots) (hw8 : wds st ≤ 8) {x y : Int}  (hd : Dc cc pcs j (.invokestatic i) 3 nx) (k : Go (fun H locs pc la sv => W p l e Rm s m args below meth c H locs cells slots Q (F0 m pc la sv)) D A tys ad aC nL s pcs S r (nx) (ls) (mI (max x y) :: st) (h)) : Go (fun H locs pc la sv => W p l e Rm s m args below meth c H locs cells slots Q (F0 m pc la sv)) D A tys ad aC nL s pcs S r (j) (ls) (mI y :: mI x :: st) (h) := by
  intro ws H locs la pc hpc hL hl hs hm hw hP hD hS hv
  obtain ⟨pc0, h1, hdg, h2⟩ := hd
  cases hpc.symm.trans h1
  have hx9 : inI x := hs _ (List.mem_cons_of_mem _ List.mem_cons_self)
  have hy9 : inI y := hs _ List.mem_cons_self
  have k9 := k ws H locs la _ h2 hL hl (fun v9 hv9 => by rcases List.mem_cons.mp hv9 with rfl | hv9; exact (show inI (max x y) by rw [Int.max_def]; split <;> assumption); exact hs _ (List.mem_cons_of_mem _ (List.mem_cons_of_mem _ hv9))) hm hw hP hD hS hv
  have e9 : Int32.ofInt (max x y) = if Int32.ofInt x < Int32.ofInt y then Int32.ofInt y else Int32.ofInt x := max32 hx9 hy9
  simp only [List.map_cons, rV, e9] at k9
  exact va_mmax hx hb (hml.trans hv.1.symm) hown hlink hstat hini hcode hR.1 (by have q := wds_ok (ad := ad) (aC := aC) st; rw [q]; omega) hR.2.2.1 hR.2.2.2 hdg k9
theorem go_min (hx : p.tables.exec = Jvm.exec) (hb : c.code = cc) {own : String} {i : Nat} (hown : s.vm.findClass own = some m.cls) (hlink : (Cond.methodLink own i Lib.Math.min.name).before args s = true) (hstat : (Cond.static Lib.Math.min.name).before args s = true) (hini : (Cond.initialized "java/lang/Math").before args s = true) (hcode : (Cond.code Lib.Math.min.name Lib.Math.min.code 2 (some .int)).before args s = true) (hml : c.maxLocals = nL) (hR : 1 ≤ Rm.frames ∧ 100 ≤ Rm.locals ∧ cells ≤ Rm.cells ∧ slots ≤ Rm.slots) (hw8 : wds st ≤ 8) {x y : Int}  (hd : Dc cc pcs j (.invokestatic i) 3 nx) (k : Go (fun H locs pc la sv => W p l e Rm s m args below meth c H locs cells slots Q (F0 m pc la sv)) D A tys ad aC nL s pcs S r (nx) (ls) (mI (min x y) :: st) (h)) : Go (fun H locs pc la sv => W p l e Rm s m args below meth c H locs cells slots Q (F0 m pc la sv)) D A tys ad aC nL s pcs S r (j) (ls) (mI y :: mI x :: st) (h) := by
  intro ws H locs la pc hpc hL hl hs hm hw hP hD hS hv
  obtain ⟨pc0, h1, hdg, h2⟩ := hd
  cases hpc.symm.trans h1
  have hx9 : inI x := hs _ (List.mem_cons_of_mem _ List.mem_cons_self)
  have hy9 : inI y := hs _ List.mem_cons_self
  have k9 := k ws H locs la _ h2 hL hl (fun v9 hv9 => by rcases List.mem_cons.mp hv9 with rfl | hv9; exact (show inI (min x y) by rw [Int.min_def]; split <;> assumption); exact hs _ (List.mem_cons_of_mem _ (List.mem_cons_of_mem _ hv9))) hm hw hP hD hS hv
  have e9 : Int32.ofInt (min x y) = if Int32.ofInt y < Int32.ofInt x then Int32.ofInt y else Int32.ofInt x := min32 hx9 hy9
  simp only [List.map_cons, rV, e9] at k9
  exact va_mmin hx hb (hml.trans hv.1.symm) hown hlink hstat hini hcode hR.1 (by have q := wds_ok (ad := ad) (aC := aC) st; rw [q]; omega) hR.2.2.1 hR.2.2.2 hdg k9
theorem go_abs (hx : p.tables.exec = Jvm.exec) (hb : c.code = cc) {own : String} {i : Nat} (hown : s.vm.findClass own = some m.cls) (hlink : (Cond.methodLink own i Lib.Math.abs.name).before args s = true) (hstat : (Cond.static Lib.Math.abs.name).before args s = true) (hini : (Cond.initialized "java/lang/Math").before args s = true) (hcode : (Cond.code Lib.Math.abs.name Lib.Math.abs.code 1 (some .int)).before args s = true) (hml : c.maxLocals = nL) (hR : 1 ≤ Rm.frames ∧ 100 ≤ Rm.locals ∧ cells ≤ Rm.cells ∧ slots ≤ Rm.slots) (hw8 : wds st ≤ 8) {x : Int} (g : inI (-x)) (hd : Dc cc pcs j (.invokestatic i) 3 nx) (k : Go (fun H locs pc la sv => W p l e Rm s m args below meth c H locs cells slots Q (F0 m pc la sv)) D A tys ad aC nL s pcs S r (nx) (ls) (mI (if x < 0 then -x else x) :: st) (h)) : Go (fun H locs pc la sv => W p l e Rm s m args below meth c H locs cells slots Q (F0 m pc la sv)) D A tys ad aC nL s pcs S r (j) (ls) (mI x :: st) (h) := by
  intro ws H locs la pc hpc hL hl hs hm hw hP hD hS hv
  obtain ⟨pc0, h1, hdg, h2⟩ := hd
  cases hpc.symm.trans h1
  have hx9 : inI x := hs _ List.mem_cons_self
  have k9 := k ws H locs la _ h2 hL hl (fun v9 hv9 => by rcases List.mem_cons.mp hv9 with rfl | hv9; exact (show inI (if x < 0 then -x else x) by split <;> assumption); exact hs _ (List.mem_cons_of_mem _ hv9)) hm hw hP hD hS hv
  have e9 : Int32.ofInt (if x < 0 then -x else x) = if 0 ≤ Int32.ofInt x then Int32.ofInt x else 0 - Int32.ofInt x := abs32 hx9
  simp only [List.map_cons, rV, e9] at k9
  exact va_mabs hx hb (hml.trans hv.1.symm) hown hlink hstat hini hcode hR.1 (by have q := wds_ok (ad := ad) (aC := aC) st; rw [q]; omega) hR.2.2.1 hR.2.2.2 hdg k9
theorem go_maxL (hx : p.tables.exec = Jvm.exec) (hb : c.code = cc) {own : String} {i : Nat} (hown : s.vm.findClass own = some m.cls) (hlink : (Cond.methodLink own i Lib.MathLoose.max_long.x).before args s = true) (hstat : (Cond.static Lib.MathLoose.max_long.x).before args s = true) (hini : (Cond.initialized "java/lang/Math").before args s = true) (hcode : (Cond.code Lib.MathLoose.max_long.x Lib.MathLoose.max_long.code 4 (some .long)).before args s = true) (hml : c.maxLocals = nL) (hR : 1 ≤ Rm.frames ∧ 100 ≤ Rm.locals ∧ cells ≤ Rm.cells ∧ slots ≤ Rm.slots) (hw8 : wds st ≤ 8) {x y : Int}  (hd : Dc cc pcs j (.invokestatic i) 3 nx) (k : Go (fun H locs pc la sv => W p l e Rm s m args below meth c H locs cells slots Q (F0 m pc la sv)) D A tys ad aC nL s pcs S r (nx) (ls) (mL (max x y) :: st) (h)) : Go (fun H locs pc la sv => W p l e Rm s m args below meth c H locs cells slots Q (F0 m pc la sv)) D A tys ad aC nL s pcs S r (j) (ls) (mL y :: mL x :: st) (h) := by
  intro ws H locs la pc hpc hL hl hs hm hw hP hD hS hv
  obtain ⟨pc0, h1, hdg, h2⟩ := hd
  cases hpc.symm.trans h1
  have hx9 : inL x := hs _ (List.mem_cons_of_mem _ List.mem_cons_self)
  have hy9 : inL y := hs _ List.mem_cons_self
  have k9 := k ws H locs la _ h2 hL hl (fun v9 hv9 => by rcases List.mem_cons.mp hv9 with rfl | hv9; exact (show inL (max x y) by rw [Int.max_def]; split <;> assumption); exact hs _ (List.mem_cons_of_mem _ (List.mem_cons_of_mem _ hv9))) hm hw hP hD hS hv
  have e9 : Int64.ofInt (max x y) = if Int64.ofInt y < Int64.ofInt x then Int64.ofInt x else Int64.ofInt y := max64 hx9 hy9
  simp only [List.map_cons, rV, e9] at k9
  exact va_mmax_long hx hb (hml.trans hv.1.symm) hown hlink hstat hini hcode hR.1 (by have q := wds_ok (ad := ad) (aC := aC) st; rw [q]; omega) hR.2.2.1 hR.2.2.2 hdg k9
end
