/-! SIM 4: one small instruction, checked, on the real machine -/
/-- the two texts, and what the JDK's own code reads -/
def TxtA (ct : Nat → List Int) (aC : Nat → Nat) (A : Nat → Prop) (s : State) (H : Heap) : Prop :=
  (∃ adK adV : Nat → Nat, vk_S 2 [(ct 5).length, (ct 6).length] [(ct 5).map Int32.ofInt, (ct 6).map Int32.ofInt] adK adV A s H ∧ aC 5 = adK 0 ∧ aC 6 = adK 1) ∧
  va_Z "java/lang/String" "COMPACT_STRINGS" "Z" (.int 1) A s H ∧ va_Zq "jdk/internal/util/Preconditions" "SIOOBE_FORMATTER" "Ljava/util/function/BiFunction;" A s H
/-- what is given of constants, fixed tables, texts and nest mates -/
def Amb (ct : Nat → List Int) (aC : Nat → Nat) (A : Nat → Prop) (s : State) (H : Heap) : Prop :=
  (∀ k, 1 ≤ k → k ≤ 4 → Tab ct aC A k s H) ∧ (∀ k, 2 ≤ k → k ≤ 4 → va_Z "ToastMap" (stN k) "[I" (.ref (aC k)) A s H) ∧
  (∀ q ∈ GNl, va_Nw (.fieldLinkNest (RN q.1) q.2.1 "ToastMap" (stN q.2.2) "[I" "ToastMap") s) ∧
  (∀ q ∈ NSl ++ NIl, va_Nw (.methodLinkNest (RN q.1) q.2.1 (mtY q.2.2) "ToastMap") s) ∧
  (∀ q ∈ STl, ∃ tx, vk_R (RN q.1) q.2.1 tx (aC q.2.2) s) ∧
  va_AO "ToastMap$Company" s ∧ va_AO "ToastMap$Times" s ∧ sm_AOA .long s ∧ TxtA ct aC A s H
/-- the constants' values are ints, the lists short -/
def ctOk (ct : Nat → List Int) : Prop := ∀ k, (∀ v ∈ ct k, inI v) ∧ (ct k).length < 2147483648
theorem GSl_k : GSl.all (fun q => Nat.ble 2 q.2.2 && Nat.ble q.2.2 4) = true := by decide +kernel
theorem GNl_k : GNl.all (fun q => Nat.ble 2 q.2.2 && Nat.ble q.2.2 4) = true := by decide +kernel
theorem mem_elem {α : Type} [BEq α] [LawfulBEq α] {l : List α} {a : α} (h : l.elem a = true) : a ∈ l := List.elem_iff.mp h
theorem vwT_get {ci : Nat} {f : List Nat} (h : nth FT ci = some f) : ∃ C N, vwCl[ci]? = some (C, vwT ci, N) ∧ f.length ≤ N := by
  have h13 : ci < 13 := nth_lt h
  have key : ∀ q, q < 13 → ∃ C N, vwCl[q]? = some (C, vwT q, N) ∧ ((nth FT q).getD []).length ≤ N := by
    intro q hq
    have : q = 0 ∨ q = 1 ∨ q = 2 ∨ q = 3 ∨ q = 4 ∨ q = 5 ∨ q = 6 ∨ q = 7 ∨ q = 8 ∨ q = 9 ∨ q = 10 ∨ q = 11 ∨ q = 12 := by omega
    rcases this with rfl | rfl | rfl | rfl | rfl | rfl | rfl | rfl | rfl | rfl | rfl | rfl | rfl <;> exact ⟨_, _, rfl, by decide⟩
  obtain ⟨C, N, h1, h2⟩ := key ci h13
  rw [h] at h2
  exact ⟨C, N, h1, h2⟩
theorem mathI : Cond.initialized "java/lang/Math" ∈ lw_g := mem_g (by decide +kernel) rfl
theorem mathS_0 : Cond.static Lib.Math.max.name ∈ lw_g := mem_g (by decide +kernel) rfl
theorem mathS_1 : Cond.static Lib.Math.min.name ∈ lw_g := mem_g (by decide +kernel) rfl
theorem mathS_2 : Cond.static Lib.Math.abs.name ∈ lw_g := mem_g (by decide +kernel) rfl
theorem mathS_3 : Cond.static Lib.MathLoose.max_long.x ∈ lw_g := mem_g (by decide +kernel) rfl
theorem mathC_0 : Cond.code Lib.Math.max.name Lib.Math.max.code 2 (some .int) ∈ lw_g := mem_g (by decide +kernel) rfl
theorem mathC_1 : Cond.code Lib.Math.min.name Lib.Math.min.code 2 (some .int) ∈ lw_g := mem_g (by decide +kernel) rfl
theorem mathC_2 : Cond.code Lib.Math.abs.name Lib.Math.abs.code 1 (some .int) ∈ lw_g := mem_g (by decide +kernel) rfl
theorem mathC_3 : Cond.code Lib.MathLoose.max_long.x Lib.MathLoose.max_long.code 4 (some .long) ∈ lw_g := mem_g (by decide +kernel) rfl
/-- which field's type is which -/
def tyC (t : Nat) (ty : FieldType) : Bool := match t, ty with
  | 0, .int => true
  | 1, .long => true
  | 3, .boolean => true
  | 2, .array _ => true
  | 2, .object _ => true
  | _, _ => false
/-- what the tables say of a class's fields -/
theorem vwT_facts {ci : Nat} {f : List Nat} (h : nth FT ci = some f) : ∃ C N, vwCl[ci]? = some (C, vwT ci, N) ∧ f.length = N ∧ (∀ w ∈ u_ws C (vwT ci) N, w ∈ lw_g) ∧ (∃ ty0 : Nat → FieldType, (∀ k, k < N → parseFieldDescriptor (vwT ci k).2.2.1 = some (ty0 k)) ∧ ∀ k t, nth f k = some t → tyC t (ty0 k) = true) ∧ (∀ a, a < N → ∀ b, b < N → a ≠ b → (vwT ci a).2.1 ≠ (vwT ci b).2.1) := by
  have h13 : ci < 13 := nth_lt h
  have this : ci = 0 ∨ ci = 1 ∨ ci = 2 ∨ ci = 3 ∨ ci = 4 ∨ ci = 5 ∨ ci = 6 ∨ ci = 7 ∨ ci = 8 ∨ ci = 9 ∨ ci = 10 ∨ ci = 11 ∨ ci = 12 := by omega
  have fin : ∀ {f : List Nat} {ty0 : Nat → FieldType}, ((List.range f.length).all (fun k => tyC ((nth f k).getD 9) (ty0 k)) = true) → ∀ k t, nth f k = some t → tyC t (ty0 k) = true := by
    intro f ty0 h k t hk
    have := List.all_eq_true.mp h k (List.mem_range.mpr (nth_lt hk))
    rw [hk] at this
    exact this
  rcases this with rfl | rfl | rfl | rfl | rfl | rfl | rfl | rfl | rfl | rfl | rfl | rfl | rfl <;> (cases h)
  · exact ⟨_, _, rfl, rfl, u_g inX0, ⟨tyX0, tyX0_ok, fin (by decide +kernel)⟩, nmX0⟩
  · exact ⟨_, _, rfl, rfl, u_g inX1, ⟨tyX1, tyX1_ok, fin (by decide +kernel)⟩, nmX1⟩
  · exact ⟨_, _, rfl, rfl, u_g inX2, ⟨tyX2, tyX2_ok, fin (by decide +kernel)⟩, nmX2⟩
  · exact ⟨_, _, rfl, rfl, u_g inX3, ⟨tyX3, tyX3_ok, fin (by decide +kernel)⟩, nmX3⟩
  · exact ⟨_, _, rfl, rfl, u_g inX4, ⟨tyX4, tyX4_ok, fin (by decide +kernel)⟩, nmX4⟩
  · exact ⟨_, _, rfl, rfl, u_g inX5, ⟨tyX5, tyX5_ok, fin (by decide +kernel)⟩, nmX5⟩
  · exact ⟨_, _, rfl, rfl, u_g inX6, ⟨tyX6, tyX6_ok, fin (by decide +kernel)⟩, nmX6⟩
  · exact ⟨_, _, rfl, rfl, u_g inX7, ⟨tyX7, tyX7_ok, fin (by decide +kernel)⟩, nmX7⟩
  · exact ⟨_, _, rfl, rfl, u_g inX8, ⟨tyX8, tyX8_ok, fin (by decide +kernel)⟩, nmX8⟩
  · exact ⟨_, _, rfl, rfl, u_g inX9, ⟨tyX9, tyX9_ok, fin (by decide +kernel)⟩, nmX9⟩
  · exact ⟨_, _, rfl, rfl, u_g inX10, ⟨tyX10, tyX10_ok, fin (by decide +kernel)⟩, nmX10⟩
  · exact ⟨_, _, rfl, rfl, u_g inX11, ⟨tyX11, tyX11_ok, fin (by decide +kernel)⟩, nmX11⟩
  · exact ⟨_, _, rfl, rfl, u_g inX12, ⟨tyX12, tyX12_ok, fin (by decide +kernel)⟩, nmX12⟩
/-- the road ends here: with v on the stack -/
def RT (cc : ByteArray) (pcs : List Nat) (id j : Nat) (v : List mv) : Prop :=
  (v = [] ∧ (∀ pc, nth pcs j = some pc → decode cc pc = .ok (.return_, 1)) ∧ mtR id = none) ∨
  (∃ x, v = [mI x] ∧ (∀ pc, nth pcs j = some pc → decode cc pc = .ok (.ireturn, 1)) ∧ (mtR id = some .int ∨ mtR id = some .boolean ∧ 0 ≤ x ∧ x ≤ 1)) ∨
  (∃ x, v = [mL x] ∧ (∀ pc, nth pcs j = some pc → decode cc pc = .ok (.lreturn, 1)) ∧ mtR id = some .long) ∨
  (∃ a C, v = [mR a] ∧ (∀ pc, nth pcs j = some pc → decode cc pc = .ok (.areturn, 1)) ∧ mtR id = some (.object C))
section
variable {p : Program} {l : Launch} {e : Env} {Rm : Room} {s : State} {m : MethodId} {args : Array Value} {below : List Frame} {meth : Method} {c : Code} {cc : ByteArray} {D : va_G} {A : Nat → Prop} {tys : List (ClassId × FieldType)} {ad aC : Nat → Nat} {nL cells slots : Nat} {Q : State → Prop} {pcs : List Nat} {S : mSh} {r : mRf} {j nx : Nat} {ls st : List mv} {h : mM} {id oc rk maxL : Nat} {ixs lst : List Nat} {ct : Nat → List Int} {cl : Nat → Nat → List mv → mM → Option (List mv × mM)} {ρ : Type} {ret : List mv → mM → Option ρ} {N : Nat → List mv → List mv → mM → Option ρ} {res : ρ}
theorem s1_iconst (hx : p.tables.exec = Jvm.exec) (hb : c.code = cc) (hts : ∀ w ∈ lw_g, w.before args s = true) (hown : s.vm.findClass (RN oc) = some m.cls) (hml : c.maxLocals = nL) (hK : va_K D vwCl tys s) (hR : 1 ≤ Rm.frames ∧ 100 ≤ Rm.locals ∧ cells ≤ Rm.cells ∧ slots ≤ Rm.slots) (hA : Amb ct aC A s s.heap) (hct : ctOk ct) {n : Int} (hN : ∀ j ls st h, N j ls st h = some res → Go (fun H locs pc la sv => W p l e Rm s m args below meth c H locs cells slots Q (F0 m pc la sv)) D A tys ad aC nL s pcs S r (j) (ls) (st) (h)) (hok : okI id cc pcs ixs oc rk maxL j (.iconst n, nx, lst) = true) (H : ex1 S r ct cl ret N (.iconst n, nx, lst) ls st h = some res) : Go (fun H locs pc la sv => W p l e Rm s m args below meth c H locs cells slots Q (F0 m pc la sv)) D A tys ad aC nL s pcs S r (j) (ls) (st) (h) := by
  unfold ex1 at H
  unfold okI at hok
  dsimp only at H hok
  simp only [Bool.or_eq_true, Bool.and_eq_true, decide_eq_true_eq] at hok
  obtain ⟨hn, ((h1 | ⟨h1, h2⟩) | ⟨h1, h2⟩) | ⟨h1, h2 | h2⟩⟩ := hok
  · exact go_iconst hx hb hn (okD_spec h1) (hN _ _ _ _ H)
  · exact go_bipush hx hb hn h2 (okD_spec h1) (hN _ _ _ _ H)
  · exact go_sipush hx hb hn h2 (okD_spec h1) (hN _ _ _ _ H)
  · exact go_ldc hx hb hn hown (hts _ (KIl_ok (mem_elem h1))) (okD_spec h2) (hN _ _ _ _ H)
  · exact go_ldcw hx hb hn hown (hts _ (KIl_ok (mem_elem h1))) (okD_spec h2) (hN _ _ _ _ H)
theorem s1_lconst (hx : p.tables.exec = Jvm.exec) (hb : c.code = cc) (hts : ∀ w ∈ lw_g, w.before args s = true) (hown : s.vm.findClass (RN oc) = some m.cls) (hml : c.maxLocals = nL) (hK : va_K D vwCl tys s) (hR : 1 ≤ Rm.frames ∧ 100 ≤ Rm.locals ∧ cells ≤ Rm.cells ∧ slots ≤ Rm.slots) (hA : Amb ct aC A s s.heap) (hct : ctOk ct) {n : Int} (hN : ∀ j ls st h, N j ls st h = some res → Go (fun H locs pc la sv => W p l e Rm s m args below meth c H locs cells slots Q (F0 m pc la sv)) D A tys ad aC nL s pcs S r (j) (ls) (st) (h)) (hok : okI id cc pcs ixs oc rk maxL j (.sipush n, nx, lst) = true) (H : ex1 S r ct cl ret N (.sipush n, nx, lst) ls st h = some res) : Go (fun H locs pc la sv => W p l e Rm s m args below meth c H locs cells slots Q (F0 m pc la sv)) D A tys ad aC nL s pcs S r (j) (ls) (st) (h) := by
  unfold ex1 at H
  unfold okI at hok
  dsimp only at H hok
  simp only [Bool.or_eq_true, Bool.and_eq_true, decide_eq_true_eq] at hok
  obtain ⟨hn, (⟨h1, h2⟩ | ⟨h1, h2⟩) | ⟨h1, h2⟩⟩ := hok
  · subst h1
    exact go_lconst hx hb hn rfl (okD_spec h2) (hN _ _ _ _ H)
  · subst h1
    exact go_lconst hx hb hn rfl (okD_spec h2) (hN _ _ _ _ H)
  · exact go_ldc2 hx hb hn hown (hts _ (KLl_ok (mem_elem h1))) (okD_spec h2) (hN _ _ _ _ H)
theorem s1_ldc (hx : p.tables.exec = Jvm.exec) (hb : c.code = cc) (hts : ∀ w ∈ lw_g, w.before args s = true) (hown : s.vm.findClass (RN oc) = some m.cls) (hml : c.maxLocals = nL) (hK : va_K D vwCl tys s) (hR : 1 ≤ Rm.frames ∧ 100 ≤ Rm.locals ∧ cells ≤ Rm.cells ∧ slots ≤ Rm.slots) (hA : Amb ct aC A s s.heap) (hct : ctOk ct) {k : Nat} (hN : ∀ j ls st h, N j ls st h = some res → Go (fun H locs pc la sv => W p l e Rm s m args below meth c H locs cells slots Q (F0 m pc la sv)) D A tys ad aC nL s pcs S r (j) (ls) (st) (h)) (hok : okI id cc pcs ixs oc rk maxL j (.ldc k, nx, lst) = true) (H : ex1 S r ct cl ret N (.ldc k, nx, lst) ls st h = some res) : Go (fun H locs pc la sv => W p l e Rm s m args below meth c H locs cells slots Q (F0 m pc la sv)) D A tys ad aC nL s pcs S r (j) (ls) (st) (h) := by
  unfold ex1 at H
  unfold okI at hok
  dsimp only at H hok
  simp only [Bool.or_eq_true, Bool.and_eq_true] at hok
  obtain (⟨h1, h2⟩ | ⟨h1, h2⟩) | ⟨h1, h2⟩ := hok
  · have q := List.all_eq_true.mp GSl_k _ (mem_elem h1)
    simp only [Bool.and_eq_true, Nat.ble_eq] at q
    exact go_gets hx hb (hA.2.1 k q.1 q.2) hown (hts _ (GSl_ok (mem_elem h1))) (okD_spec h2) (hN _ _ _ _ H)
  · have q := List.all_eq_true.mp GNl_k _ (mem_elem h1)
    simp only [Bool.and_eq_true, Nat.ble_eq] at q
    exact go_getsN hx hb (hA.2.1 k q.1 q.2) hown (va_Nw.use rfl (hA.2.2.1 _ (mem_elem h1))) (okD_spec h2) (hN _ _ _ _ H)
  · obtain ⟨tx, q⟩ := hA.2.2.2.2.1 _ (mem_elem h1)
    exact go_ldcS hx hb q hown (okD_spec h2) (hN _ _ _ _ H)
theorem s1_iload (hx : p.tables.exec = Jvm.exec) (hb : c.code = cc) (hts : ∀ w ∈ lw_g, w.before args s = true) (hown : s.vm.findClass (RN oc) = some m.cls) (hml : c.maxLocals = nL) (hK : va_K D vwCl tys s) (hR : 1 ≤ Rm.frames ∧ 100 ≤ Rm.locals ∧ cells ≤ Rm.cells ∧ slots ≤ Rm.slots) (hA : Amb ct aC A s s.heap) (hct : ctOk ct) {k : Nat} (hN : ∀ j ls st h, N j ls st h = some res → Go (fun H locs pc la sv => W p l e Rm s m args below meth c H locs cells slots Q (F0 m pc la sv)) D A tys ad aC nL s pcs S r (j) (ls) (st) (h)) (hok : okI id cc pcs ixs oc rk maxL j (.iload k, nx, lst) = true) (H : ex1 S r ct cl ret N (.iload k, nx, lst) ls st h = some res) : Go (fun H locs pc la sv => W p l e Rm s m args below meth c H locs cells slots Q (F0 m pc la sv)) D A tys ad aC nL s pcs S r (j) (ls) (st) (h) := by
  unfold ex1 at H
  unfold okI at hok
  dsimp only at H hok
  unfold okL4 at hok
  simp only [Bool.or_eq_true, Bool.and_eq_true, Nat.blt_eq] at hok
  have f9 : k < 4 → ((Fin.ofNat 4 k : Fin 4) : Nat) = k := fun q => Nat.mod_eq_of_lt q
  split at H
  · next hk =>
    rcases hok with h1 | ⟨h1, h2⟩
    · exact go_iload hx hb hk (okD_spec h1) (hN _ _ _ _ H)
    · exact go_iload_n hx hb hk (f9 h1) (okD_spec h2) (hN _ _ _ _ H)
  · cases H
theorem s1_lload (hx : p.tables.exec = Jvm.exec) (hb : c.code = cc) (hts : ∀ w ∈ lw_g, w.before args s = true) (hown : s.vm.findClass (RN oc) = some m.cls) (hml : c.maxLocals = nL) (hK : va_K D vwCl tys s) (hR : 1 ≤ Rm.frames ∧ 100 ≤ Rm.locals ∧ cells ≤ Rm.cells ∧ slots ≤ Rm.slots) (hA : Amb ct aC A s s.heap) (hct : ctOk ct) {k : Nat} (hN : ∀ j ls st h, N j ls st h = some res → Go (fun H locs pc la sv => W p l e Rm s m args below meth c H locs cells slots Q (F0 m pc la sv)) D A tys ad aC nL s pcs S r (j) (ls) (st) (h)) (hok : okI id cc pcs ixs oc rk maxL j (.lload k, nx, lst) = true) (H : ex1 S r ct cl ret N (.lload k, nx, lst) ls st h = some res) : Go (fun H locs pc la sv => W p l e Rm s m args below meth c H locs cells slots Q (F0 m pc la sv)) D A tys ad aC nL s pcs S r (j) (ls) (st) (h) := by
  unfold ex1 at H
  unfold okI at hok
  dsimp only at H hok
  unfold okL4 at hok
  simp only [Bool.or_eq_true, Bool.and_eq_true, Nat.blt_eq] at hok
  have f9 : k < 4 → ((Fin.ofNat 4 k : Fin 4) : Nat) = k := fun q => Nat.mod_eq_of_lt q
  split at H
  · next hk =>
    rcases hok with h1 | ⟨h1, h2⟩
    · exact go_lload hx hb hk (okD_spec h1) (hN _ _ _ _ H)
    · exact go_lload_n hx hb hk (f9 h1) (okD_spec h2) (hN _ _ _ _ H)
  · cases H
theorem s1_aload (hx : p.tables.exec = Jvm.exec) (hb : c.code = cc) (hts : ∀ w ∈ lw_g, w.before args s = true) (hown : s.vm.findClass (RN oc) = some m.cls) (hml : c.maxLocals = nL) (hK : va_K D vwCl tys s) (hR : 1 ≤ Rm.frames ∧ 100 ≤ Rm.locals ∧ cells ≤ Rm.cells ∧ slots ≤ Rm.slots) (hA : Amb ct aC A s s.heap) (hct : ctOk ct) {k : Nat} (hN : ∀ j ls st h, N j ls st h = some res → Go (fun H locs pc la sv => W p l e Rm s m args below meth c H locs cells slots Q (F0 m pc la sv)) D A tys ad aC nL s pcs S r (j) (ls) (st) (h)) (hok : okI id cc pcs ixs oc rk maxL j (.aload k, nx, lst) = true) (H : ex1 S r ct cl ret N (.aload k, nx, lst) ls st h = some res) : Go (fun H locs pc la sv => W p l e Rm s m args below meth c H locs cells slots Q (F0 m pc la sv)) D A tys ad aC nL s pcs S r (j) (ls) (st) (h) := by
  unfold ex1 at H
  unfold okI at hok
  dsimp only at H hok
  unfold okL4 at hok
  simp only [Bool.or_eq_true, Bool.and_eq_true, Nat.blt_eq] at hok
  have f9 : k < 4 → ((Fin.ofNat 4 k : Fin 4) : Nat) = k := fun q => Nat.mod_eq_of_lt q
  split at H
  · next hk =>
    rcases hok with h1 | ⟨h1, h2⟩
    · exact go_aload hx hb hk (okD_spec h1) (hN _ _ _ _ H)
    · exact go_aload_n hx hb hk (f9 h1) (okD_spec h2) (hN _ _ _ _ H)
  · next hk =>
    rcases hok with h1 | ⟨h1, h2⟩
    · exact go_aloadC hx hb hk (okD_spec h1) (hN _ _ _ _ H)
    · exact go_aloadC_n hx hb hk (f9 h1) (okD_spec h2) (hN _ _ _ _ H)
  · cases H
theorem s1_istore (hx : p.tables.exec = Jvm.exec) (hb : c.code = cc) (hts : ∀ w ∈ lw_g, w.before args s = true) (hown : s.vm.findClass (RN oc) = some m.cls) (hml : c.maxLocals = nL) (hK : va_K D vwCl tys s) (hR : 1 ≤ Rm.frames ∧ 100 ≤ Rm.locals ∧ cells ≤ Rm.cells ∧ slots ≤ Rm.slots) (hA : Amb ct aC A s s.heap) (hct : ctOk ct) {k : Nat} (hN : ∀ j ls st h, N j ls st h = some res → Go (fun H locs pc la sv => W p l e Rm s m args below meth c H locs cells slots Q (F0 m pc la sv)) D A tys ad aC nL s pcs S r (j) (ls) (st) (h)) (hok : okI id cc pcs ixs oc rk maxL j (.istore k, nx, lst) = true) (H : ex1 S r ct cl ret N (.istore k, nx, lst) ls st h = some res) : Go (fun H locs pc la sv => W p l e Rm s m args below meth c H locs cells slots Q (F0 m pc la sv)) D A tys ad aC nL s pcs S r (j) (ls) (st) (h) := by
  unfold ex1 at H
  unfold okI at hok
  dsimp only at H hok
  unfold okL4 at hok
  simp only [Bool.or_eq_true, Bool.and_eq_true, Nat.blt_eq] at hok
  have f9 : k < 4 → ((Fin.ofNat 4 k : Fin 4) : Nat) = k := fun q => Nat.mod_eq_of_lt q
  split at H
  · obtain ⟨ls', hR', H⟩ := stK_spec k ls H
    rcases hok with h1 | ⟨h1, h2⟩
    · exact go_istore hx hb hR' (okD_spec h1) (hN _ _ _ _ H)
    · exact go_istore_n hx hb hR' (f9 h1) (okD_spec h2) (hN _ _ _ _ H)
  · cases H
theorem s1_lstore (hx : p.tables.exec = Jvm.exec) (hb : c.code = cc) (hts : ∀ w ∈ lw_g, w.before args s = true) (hown : s.vm.findClass (RN oc) = some m.cls) (hml : c.maxLocals = nL) (hK : va_K D vwCl tys s) (hR : 1 ≤ Rm.frames ∧ 100 ≤ Rm.locals ∧ cells ≤ Rm.cells ∧ slots ≤ Rm.slots) (hA : Amb ct aC A s s.heap) (hct : ctOk ct) {k : Nat} (hN : ∀ j ls st h, N j ls st h = some res → Go (fun H locs pc la sv => W p l e Rm s m args below meth c H locs cells slots Q (F0 m pc la sv)) D A tys ad aC nL s pcs S r (j) (ls) (st) (h)) (hok : okI id cc pcs ixs oc rk maxL j (.lstore k, nx, lst) = true) (H : ex1 S r ct cl ret N (.lstore k, nx, lst) ls st h = some res) : Go (fun H locs pc la sv => W p l e Rm s m args below meth c H locs cells slots Q (F0 m pc la sv)) D A tys ad aC nL s pcs S r (j) (ls) (st) (h) := by
  unfold ex1 at H
  unfold okI at hok
  dsimp only at H hok
  unfold okL4 at hok
  simp only [Bool.or_eq_true, Bool.and_eq_true, Nat.blt_eq] at hok
  have f9 : k < 4 → ((Fin.ofNat 4 k : Fin 4) : Nat) = k := fun q => Nat.mod_eq_of_lt q
  split at H
  · obtain ⟨ls', hR', H⟩ := stL_spec k ls H
    rcases hok with h1 | ⟨h1, h2⟩
    · exact go_lstore hx hb hR' (okD_spec h1) (hN _ _ _ _ H)
    · exact go_lstore_n hx hb hR' (f9 h1) (okD_spec h2) (hN _ _ _ _ H)
  · cases H
theorem s1_astore (hx : p.tables.exec = Jvm.exec) (hb : c.code = cc) (hts : ∀ w ∈ lw_g, w.before args s = true) (hown : s.vm.findClass (RN oc) = some m.cls) (hml : c.maxLocals = nL) (hK : va_K D vwCl tys s) (hR : 1 ≤ Rm.frames ∧ 100 ≤ Rm.locals ∧ cells ≤ Rm.cells ∧ slots ≤ Rm.slots) (hA : Amb ct aC A s s.heap) (hct : ctOk ct) {k : Nat} (hN : ∀ j ls st h, N j ls st h = some res → Go (fun H locs pc la sv => W p l e Rm s m args below meth c H locs cells slots Q (F0 m pc la sv)) D A tys ad aC nL s pcs S r (j) (ls) (st) (h)) (hok : okI id cc pcs ixs oc rk maxL j (.astore k, nx, lst) = true) (H : ex1 S r ct cl ret N (.astore k, nx, lst) ls st h = some res) : Go (fun H locs pc la sv => W p l e Rm s m args below meth c H locs cells slots Q (F0 m pc la sv)) D A tys ad aC nL s pcs S r (j) (ls) (st) (h) := by
  unfold ex1 at H
  unfold okI at hok
  dsimp only at H hok
  unfold okL4 at hok
  simp only [Bool.or_eq_true, Bool.and_eq_true, Nat.blt_eq] at hok
  have f9 : k < 4 → ((Fin.ofNat 4 k : Fin 4) : Nat) = k := fun q => Nat.mod_eq_of_lt q
  split at H
  · obtain ⟨ls', hR', H⟩ := stK_spec k ls H
    rcases hok with h1 | ⟨h1, h2⟩
    · exact go_astore hx hb hR' (okD_spec h1) (hN _ _ _ _ H)
    · exact go_astore_n hx hb hR' (f9 h1) (okD_spec h2) (hN _ _ _ _ H)
  · cases H
theorem s1_iinc (hx : p.tables.exec = Jvm.exec) (hb : c.code = cc) (hts : ∀ w ∈ lw_g, w.before args s = true) (hown : s.vm.findClass (RN oc) = some m.cls) (hml : c.maxLocals = nL) (hK : va_K D vwCl tys s) (hR : 1 ≤ Rm.frames ∧ 100 ≤ Rm.locals ∧ cells ≤ Rm.cells ∧ slots ≤ Rm.slots) (hA : Amb ct aC A s s.heap) (hct : ctOk ct) {k : Nat} {n : Int} (hN : ∀ j ls st h, N j ls st h = some res → Go (fun H locs pc la sv => W p l e Rm s m args below meth c H locs cells slots Q (F0 m pc la sv)) D A tys ad aC nL s pcs S r (j) (ls) (st) (h)) (hok : okI id cc pcs ixs oc rk maxL j (.iinc k n, nx, lst) = true) (H : ex1 S r ct cl ret N (.iinc k n, nx, lst) ls st h = some res) : Go (fun H locs pc la sv => W p l e Rm s m args below meth c H locs cells slots Q (F0 m pc la sv)) D A tys ad aC nL s pcs S r (j) (ls) (st) (h) := by
  unfold ex1 at H
  unfold okI at hok
  dsimp only at H hok
  split at H
  · next x hk =>
    split at H
    · next g =>
      obtain ⟨ls', hR', H⟩ := stK_spec k ls H
      exact go_iinc hx hb hk g hR' (okD_spec hok) (hN _ _ _ _ H)
    · cases H
  · cases H
theorem s1_iadd (hx : p.tables.exec = Jvm.exec) (hb : c.code = cc) (hts : ∀ w ∈ lw_g, w.before args s = true) (hown : s.vm.findClass (RN oc) = some m.cls) (hml : c.maxLocals = nL) (hK : va_K D vwCl tys s) (hR : 1 ≤ Rm.frames ∧ 100 ≤ Rm.locals ∧ cells ≤ Rm.cells ∧ slots ≤ Rm.slots) (hA : Amb ct aC A s s.heap) (hct : ctOk ct)  (hN : ∀ j ls st h, N j ls st h = some res → Go (fun H locs pc la sv => W p l e Rm s m args below meth c H locs cells slots Q (F0 m pc la sv)) D A tys ad aC nL s pcs S r (j) (ls) (st) (h)) (hok : okI id cc pcs ixs oc rk maxL j (.iadd, nx, lst) = true) (H : ex1 S r ct cl ret N (.iadd, nx, lst) ls st h = some res) : Go (fun H locs pc la sv => W p l e Rm s m args below meth c H locs cells slots Q (F0 m pc la sv)) D A tys ad aC nL s pcs S r (j) (ls) (st) (h) := by
  unfold ex1 at H
  unfold okI at hok
  dsimp only at H hok
  simp only [Bool.and_eq_true] at hok
  split at H
  · split at H
    · next g => exact go_iadd hx hb g (okD_spec hok.1) (hN _ _ _ _ H)
    · cases H
  · cases H
theorem s1_isub (hx : p.tables.exec = Jvm.exec) (hb : c.code = cc) (hts : ∀ w ∈ lw_g, w.before args s = true) (hown : s.vm.findClass (RN oc) = some m.cls) (hml : c.maxLocals = nL) (hK : va_K D vwCl tys s) (hR : 1 ≤ Rm.frames ∧ 100 ≤ Rm.locals ∧ cells ≤ Rm.cells ∧ slots ≤ Rm.slots) (hA : Amb ct aC A s s.heap) (hct : ctOk ct)  (hN : ∀ j ls st h, N j ls st h = some res → Go (fun H locs pc la sv => W p l e Rm s m args below meth c H locs cells slots Q (F0 m pc la sv)) D A tys ad aC nL s pcs S r (j) (ls) (st) (h)) (hok : okI id cc pcs ixs oc rk maxL j (.isub, nx, lst) = true) (H : ex1 S r ct cl ret N (.isub, nx, lst) ls st h = some res) : Go (fun H locs pc la sv => W p l e Rm s m args below meth c H locs cells slots Q (F0 m pc la sv)) D A tys ad aC nL s pcs S r (j) (ls) (st) (h) := by
  unfold ex1 at H
  unfold okI at hok
  dsimp only at H hok
  simp only [Bool.and_eq_true] at hok
  split at H
  · split at H
    · next g => exact go_isub hx hb g (okD_spec hok.1) (hN _ _ _ _ H)
    · cases H
  · cases H
theorem s1_imul (hx : p.tables.exec = Jvm.exec) (hb : c.code = cc) (hts : ∀ w ∈ lw_g, w.before args s = true) (hown : s.vm.findClass (RN oc) = some m.cls) (hml : c.maxLocals = nL) (hK : va_K D vwCl tys s) (hR : 1 ≤ Rm.frames ∧ 100 ≤ Rm.locals ∧ cells ≤ Rm.cells ∧ slots ≤ Rm.slots) (hA : Amb ct aC A s s.heap) (hct : ctOk ct)  (hN : ∀ j ls st h, N j ls st h = some res → Go (fun H locs pc la sv => W p l e Rm s m args below meth c H locs cells slots Q (F0 m pc la sv)) D A tys ad aC nL s pcs S r (j) (ls) (st) (h)) (hok : okI id cc pcs ixs oc rk maxL j (.imul, nx, lst) = true) (H : ex1 S r ct cl ret N (.imul, nx, lst) ls st h = some res) : Go (fun H locs pc la sv => W p l e Rm s m args below meth c H locs cells slots Q (F0 m pc la sv)) D A tys ad aC nL s pcs S r (j) (ls) (st) (h) := by
  unfold ex1 at H
  unfold okI at hok
  dsimp only at H hok
  simp only [Bool.and_eq_true] at hok
  split at H
  · split at H
    · next g => exact go_imul hx hb g (okD_spec hok.1) (hN _ _ _ _ H)
    · cases H
  · cases H
theorem s1_ladd (hx : p.tables.exec = Jvm.exec) (hb : c.code = cc) (hts : ∀ w ∈ lw_g, w.before args s = true) (hown : s.vm.findClass (RN oc) = some m.cls) (hml : c.maxLocals = nL) (hK : va_K D vwCl tys s) (hR : 1 ≤ Rm.frames ∧ 100 ≤ Rm.locals ∧ cells ≤ Rm.cells ∧ slots ≤ Rm.slots) (hA : Amb ct aC A s s.heap) (hct : ctOk ct)  (hN : ∀ j ls st h, N j ls st h = some res → Go (fun H locs pc la sv => W p l e Rm s m args below meth c H locs cells slots Q (F0 m pc la sv)) D A tys ad aC nL s pcs S r (j) (ls) (st) (h)) (hok : okI id cc pcs ixs oc rk maxL j (.ladd, nx, lst) = true) (H : ex1 S r ct cl ret N (.ladd, nx, lst) ls st h = some res) : Go (fun H locs pc la sv => W p l e Rm s m args below meth c H locs cells slots Q (F0 m pc la sv)) D A tys ad aC nL s pcs S r (j) (ls) (st) (h) := by
  unfold ex1 at H
  unfold okI at hok
  dsimp only at H hok
  simp only [Bool.and_eq_true] at hok
  split at H
  · split at H
    · next g => exact go_ladd hx hb g (okD_spec hok.1) (hN _ _ _ _ H)
    · cases H
  · cases H
theorem s1_lsub (hx : p.tables.exec = Jvm.exec) (hb : c.code = cc) (hts : ∀ w ∈ lw_g, w.before args s = true) (hown : s.vm.findClass (RN oc) = some m.cls) (hml : c.maxLocals = nL) (hK : va_K D vwCl tys s) (hR : 1 ≤ Rm.frames ∧ 100 ≤ Rm.locals ∧ cells ≤ Rm.cells ∧ slots ≤ Rm.slots) (hA : Amb ct aC A s s.heap) (hct : ctOk ct)  (hN : ∀ j ls st h, N j ls st h = some res → Go (fun H locs pc la sv => W p l e Rm s m args below meth c H locs cells slots Q (F0 m pc la sv)) D A tys ad aC nL s pcs S r (j) (ls) (st) (h)) (hok : okI id cc pcs ixs oc rk maxL j (.lsub, nx, lst) = true) (H : ex1 S r ct cl ret N (.lsub, nx, lst) ls st h = some res) : Go (fun H locs pc la sv => W p l e Rm s m args below meth c H locs cells slots Q (F0 m pc la sv)) D A tys ad aC nL s pcs S r (j) (ls) (st) (h) := by
  unfold ex1 at H
  unfold okI at hok
  dsimp only at H hok
  simp only [Bool.and_eq_true] at hok
  split at H
  · split at H
    · next g => exact go_lsub hx hb g (okD_spec hok.1) (hN _ _ _ _ H)
    · cases H
  · cases H
theorem s1_lmul (hx : p.tables.exec = Jvm.exec) (hb : c.code = cc) (hts : ∀ w ∈ lw_g, w.before args s = true) (hown : s.vm.findClass (RN oc) = some m.cls) (hml : c.maxLocals = nL) (hK : va_K D vwCl tys s) (hR : 1 ≤ Rm.frames ∧ 100 ≤ Rm.locals ∧ cells ≤ Rm.cells ∧ slots ≤ Rm.slots) (hA : Amb ct aC A s s.heap) (hct : ctOk ct)  (hN : ∀ j ls st h, N j ls st h = some res → Go (fun H locs pc la sv => W p l e Rm s m args below meth c H locs cells slots Q (F0 m pc la sv)) D A tys ad aC nL s pcs S r (j) (ls) (st) (h)) (hok : okI id cc pcs ixs oc rk maxL j (.lmul, nx, lst) = true) (H : ex1 S r ct cl ret N (.lmul, nx, lst) ls st h = some res) : Go (fun H locs pc la sv => W p l e Rm s m args below meth c H locs cells slots Q (F0 m pc la sv)) D A tys ad aC nL s pcs S r (j) (ls) (st) (h) := by
  unfold ex1 at H
  unfold okI at hok
  dsimp only at H hok
  simp only [Bool.and_eq_true] at hok
  split at H
  · split at H
    · next g => exact go_lmul hx hb g (okD_spec hok.1) (hN _ _ _ _ H)
    · cases H
  · cases H
theorem s1_idiv (hx : p.tables.exec = Jvm.exec) (hb : c.code = cc) (hts : ∀ w ∈ lw_g, w.before args s = true) (hown : s.vm.findClass (RN oc) = some m.cls) (hml : c.maxLocals = nL) (hK : va_K D vwCl tys s) (hR : 1 ≤ Rm.frames ∧ 100 ≤ Rm.locals ∧ cells ≤ Rm.cells ∧ slots ≤ Rm.slots) (hA : Amb ct aC A s s.heap) (hct : ctOk ct)  (hN : ∀ j ls st h, N j ls st h = some res → Go (fun H locs pc la sv => W p l e Rm s m args below meth c H locs cells slots Q (F0 m pc la sv)) D A tys ad aC nL s pcs S r (j) (ls) (st) (h)) (hok : okI id cc pcs ixs oc rk maxL j (.idiv, nx, lst) = true) (H : ex1 S r ct cl ret N (.idiv, nx, lst) ls st h = some res) : Go (fun H locs pc la sv => W p l e Rm s m args below meth c H locs cells slots Q (F0 m pc la sv)) D A tys ad aC nL s pcs S r (j) (ls) (st) (h) := by
  unfold ex1 at H
  unfold okI at hok
  dsimp only at H hok
  simp only [Bool.and_eq_true] at hok
  split at H
  · split at H
    · next g => exact go_idiv hx hb g (okD_spec hok.1) (hN _ _ _ _ H)
    · cases H
  · cases H
theorem s1_irem (hx : p.tables.exec = Jvm.exec) (hb : c.code = cc) (hts : ∀ w ∈ lw_g, w.before args s = true) (hown : s.vm.findClass (RN oc) = some m.cls) (hml : c.maxLocals = nL) (hK : va_K D vwCl tys s) (hR : 1 ≤ Rm.frames ∧ 100 ≤ Rm.locals ∧ cells ≤ Rm.cells ∧ slots ≤ Rm.slots) (hA : Amb ct aC A s s.heap) (hct : ctOk ct)  (hN : ∀ j ls st h, N j ls st h = some res → Go (fun H locs pc la sv => W p l e Rm s m args below meth c H locs cells slots Q (F0 m pc la sv)) D A tys ad aC nL s pcs S r (j) (ls) (st) (h)) (hok : okI id cc pcs ixs oc rk maxL j (.irem, nx, lst) = true) (H : ex1 S r ct cl ret N (.irem, nx, lst) ls st h = some res) : Go (fun H locs pc la sv => W p l e Rm s m args below meth c H locs cells slots Q (F0 m pc la sv)) D A tys ad aC nL s pcs S r (j) (ls) (st) (h) := by
  unfold ex1 at H
  unfold okI at hok
  dsimp only at H hok
  simp only [Bool.and_eq_true] at hok
  split at H
  · split at H
    · next g => exact go_irem hx hb g (okD_spec hok.1) (hN _ _ _ _ H)
    · cases H
  · cases H
theorem s1_ldiv (hx : p.tables.exec = Jvm.exec) (hb : c.code = cc) (hts : ∀ w ∈ lw_g, w.before args s = true) (hown : s.vm.findClass (RN oc) = some m.cls) (hml : c.maxLocals = nL) (hK : va_K D vwCl tys s) (hR : 1 ≤ Rm.frames ∧ 100 ≤ Rm.locals ∧ cells ≤ Rm.cells ∧ slots ≤ Rm.slots) (hA : Amb ct aC A s s.heap) (hct : ctOk ct)  (hN : ∀ j ls st h, N j ls st h = some res → Go (fun H locs pc la sv => W p l e Rm s m args below meth c H locs cells slots Q (F0 m pc la sv)) D A tys ad aC nL s pcs S r (j) (ls) (st) (h)) (hok : okI id cc pcs ixs oc rk maxL j (.ldiv, nx, lst) = true) (H : ex1 S r ct cl ret N (.ldiv, nx, lst) ls st h = some res) : Go (fun H locs pc la sv => W p l e Rm s m args below meth c H locs cells slots Q (F0 m pc la sv)) D A tys ad aC nL s pcs S r (j) (ls) (st) (h) := by
  unfold ex1 at H
  unfold okI at hok
  dsimp only at H hok
  simp only [Bool.and_eq_true] at hok
  split at H
  · split at H
    · next g => exact go_ldiv hx hb g (okD_spec hok.1) (hN _ _ _ _ H)
    · cases H
  · cases H
theorem s1_lrem (hx : p.tables.exec = Jvm.exec) (hb : c.code = cc) (hts : ∀ w ∈ lw_g, w.before args s = true) (hown : s.vm.findClass (RN oc) = some m.cls) (hml : c.maxLocals = nL) (hK : va_K D vwCl tys s) (hR : 1 ≤ Rm.frames ∧ 100 ≤ Rm.locals ∧ cells ≤ Rm.cells ∧ slots ≤ Rm.slots) (hA : Amb ct aC A s s.heap) (hct : ctOk ct)  (hN : ∀ j ls st h, N j ls st h = some res → Go (fun H locs pc la sv => W p l e Rm s m args below meth c H locs cells slots Q (F0 m pc la sv)) D A tys ad aC nL s pcs S r (j) (ls) (st) (h)) (hok : okI id cc pcs ixs oc rk maxL j (.lrem, nx, lst) = true) (H : ex1 S r ct cl ret N (.lrem, nx, lst) ls st h = some res) : Go (fun H locs pc la sv => W p l e Rm s m args below meth c H locs cells slots Q (F0 m pc la sv)) D A tys ad aC nL s pcs S r (j) (ls) (st) (h) := by
  unfold ex1 at H
  unfold okI at hok
  dsimp only at H hok
  simp only [Bool.and_eq_true] at hok
  split at H
  · split at H
    · next g => exact go_lrem hx hb g (okD_spec hok.1) (hN _ _ _ _ H)
    · cases H
  · cases H
theorem s1_iand (hx : p.tables.exec = Jvm.exec) (hb : c.code = cc) (hts : ∀ w ∈ lw_g, w.before args s = true) (hown : s.vm.findClass (RN oc) = some m.cls) (hml : c.maxLocals = nL) (hK : va_K D vwCl tys s) (hR : 1 ≤ Rm.frames ∧ 100 ≤ Rm.locals ∧ cells ≤ Rm.cells ∧ slots ≤ Rm.slots) (hA : Amb ct aC A s s.heap) (hct : ctOk ct)  (hN : ∀ j ls st h, N j ls st h = some res → Go (fun H locs pc la sv => W p l e Rm s m args below meth c H locs cells slots Q (F0 m pc la sv)) D A tys ad aC nL s pcs S r (j) (ls) (st) (h)) (hok : okI id cc pcs ixs oc rk maxL j (.iand, nx, lst) = true) (H : ex1 S r ct cl ret N (.iand, nx, lst) ls st h = some res) : Go (fun H locs pc la sv => W p l e Rm s m args below meth c H locs cells slots Q (F0 m pc la sv)) D A tys ad aC nL s pcs S r (j) (ls) (st) (h) := by
  unfold ex1 at H
  unfold okI at hok
  dsimp only at H hok
  simp only [Bool.and_eq_true] at hok
  split at H
  · exact go_iand hx hb (okD_spec hok.1) (hN _ _ _ _ H)
  · cases H
theorem s1_ior (hx : p.tables.exec = Jvm.exec) (hb : c.code = cc) (hts : ∀ w ∈ lw_g, w.before args s = true) (hown : s.vm.findClass (RN oc) = some m.cls) (hml : c.maxLocals = nL) (hK : va_K D vwCl tys s) (hR : 1 ≤ Rm.frames ∧ 100 ≤ Rm.locals ∧ cells ≤ Rm.cells ∧ slots ≤ Rm.slots) (hA : Amb ct aC A s s.heap) (hct : ctOk ct)  (hN : ∀ j ls st h, N j ls st h = some res → Go (fun H locs pc la sv => W p l e Rm s m args below meth c H locs cells slots Q (F0 m pc la sv)) D A tys ad aC nL s pcs S r (j) (ls) (st) (h)) (hok : okI id cc pcs ixs oc rk maxL j (.ior, nx, lst) = true) (H : ex1 S r ct cl ret N (.ior, nx, lst) ls st h = some res) : Go (fun H locs pc la sv => W p l e Rm s m args below meth c H locs cells slots Q (F0 m pc la sv)) D A tys ad aC nL s pcs S r (j) (ls) (st) (h) := by
  unfold ex1 at H
  unfold okI at hok
  dsimp only at H hok
  simp only [Bool.and_eq_true] at hok
  split at H
  · exact go_ior hx hb (okD_spec hok.1) (hN _ _ _ _ H)
  · cases H
theorem s1_ixor (hx : p.tables.exec = Jvm.exec) (hb : c.code = cc) (hts : ∀ w ∈ lw_g, w.before args s = true) (hown : s.vm.findClass (RN oc) = some m.cls) (hml : c.maxLocals = nL) (hK : va_K D vwCl tys s) (hR : 1 ≤ Rm.frames ∧ 100 ≤ Rm.locals ∧ cells ≤ Rm.cells ∧ slots ≤ Rm.slots) (hA : Amb ct aC A s s.heap) (hct : ctOk ct)  (hN : ∀ j ls st h, N j ls st h = some res → Go (fun H locs pc la sv => W p l e Rm s m args below meth c H locs cells slots Q (F0 m pc la sv)) D A tys ad aC nL s pcs S r (j) (ls) (st) (h)) (hok : okI id cc pcs ixs oc rk maxL j (.ixor, nx, lst) = true) (H : ex1 S r ct cl ret N (.ixor, nx, lst) ls st h = some res) : Go (fun H locs pc la sv => W p l e Rm s m args below meth c H locs cells slots Q (F0 m pc la sv)) D A tys ad aC nL s pcs S r (j) (ls) (st) (h) := by
  unfold ex1 at H
  unfold okI at hok
  dsimp only at H hok
  simp only [Bool.and_eq_true] at hok
  split at H
  · exact go_ixor hx hb (okD_spec hok.1) (hN _ _ _ _ H)
  · cases H
theorem s1_ishl (hx : p.tables.exec = Jvm.exec) (hb : c.code = cc) (hts : ∀ w ∈ lw_g, w.before args s = true) (hown : s.vm.findClass (RN oc) = some m.cls) (hml : c.maxLocals = nL) (hK : va_K D vwCl tys s) (hR : 1 ≤ Rm.frames ∧ 100 ≤ Rm.locals ∧ cells ≤ Rm.cells ∧ slots ≤ Rm.slots) (hA : Amb ct aC A s s.heap) (hct : ctOk ct)  (hN : ∀ j ls st h, N j ls st h = some res → Go (fun H locs pc la sv => W p l e Rm s m args below meth c H locs cells slots Q (F0 m pc la sv)) D A tys ad aC nL s pcs S r (j) (ls) (st) (h)) (hok : okI id cc pcs ixs oc rk maxL j (.ishl, nx, lst) = true) (H : ex1 S r ct cl ret N (.ishl, nx, lst) ls st h = some res) : Go (fun H locs pc la sv => W p l e Rm s m args below meth c H locs cells slots Q (F0 m pc la sv)) D A tys ad aC nL s pcs S r (j) (ls) (st) (h) := by
  unfold ex1 at H
  unfold okI at hok
  dsimp only at H hok
  simp only [Bool.and_eq_true] at hok
  split at H
  · exact go_ishl hx hb (okD_spec hok.1) (hN _ _ _ _ H)
  · cases H
theorem s1_ishr (hx : p.tables.exec = Jvm.exec) (hb : c.code = cc) (hts : ∀ w ∈ lw_g, w.before args s = true) (hown : s.vm.findClass (RN oc) = some m.cls) (hml : c.maxLocals = nL) (hK : va_K D vwCl tys s) (hR : 1 ≤ Rm.frames ∧ 100 ≤ Rm.locals ∧ cells ≤ Rm.cells ∧ slots ≤ Rm.slots) (hA : Amb ct aC A s s.heap) (hct : ctOk ct)  (hN : ∀ j ls st h, N j ls st h = some res → Go (fun H locs pc la sv => W p l e Rm s m args below meth c H locs cells slots Q (F0 m pc la sv)) D A tys ad aC nL s pcs S r (j) (ls) (st) (h)) (hok : okI id cc pcs ixs oc rk maxL j (.ishr, nx, lst) = true) (H : ex1 S r ct cl ret N (.ishr, nx, lst) ls st h = some res) : Go (fun H locs pc la sv => W p l e Rm s m args below meth c H locs cells slots Q (F0 m pc la sv)) D A tys ad aC nL s pcs S r (j) (ls) (st) (h) := by
  unfold ex1 at H
  unfold okI at hok
  dsimp only at H hok
  simp only [Bool.and_eq_true] at hok
  split at H
  · exact go_ishr hx hb (okD_spec hok.1) (hN _ _ _ _ H)
  · cases H
theorem s1_iushr (hx : p.tables.exec = Jvm.exec) (hb : c.code = cc) (hts : ∀ w ∈ lw_g, w.before args s = true) (hown : s.vm.findClass (RN oc) = some m.cls) (hml : c.maxLocals = nL) (hK : va_K D vwCl tys s) (hR : 1 ≤ Rm.frames ∧ 100 ≤ Rm.locals ∧ cells ≤ Rm.cells ∧ slots ≤ Rm.slots) (hA : Amb ct aC A s s.heap) (hct : ctOk ct)  (hN : ∀ j ls st h, N j ls st h = some res → Go (fun H locs pc la sv => W p l e Rm s m args below meth c H locs cells slots Q (F0 m pc la sv)) D A tys ad aC nL s pcs S r (j) (ls) (st) (h)) (hok : okI id cc pcs ixs oc rk maxL j (.iushr, nx, lst) = true) (H : ex1 S r ct cl ret N (.iushr, nx, lst) ls st h = some res) : Go (fun H locs pc la sv => W p l e Rm s m args below meth c H locs cells slots Q (F0 m pc la sv)) D A tys ad aC nL s pcs S r (j) (ls) (st) (h) := by
  unfold ex1 at H
  unfold okI at hok
  dsimp only at H hok
  simp only [Bool.and_eq_true] at hok
  split at H
  · exact go_iushr hx hb (okD_spec hok.1) (hN _ _ _ _ H)
  · cases H
theorem s1_land (hx : p.tables.exec = Jvm.exec) (hb : c.code = cc) (hts : ∀ w ∈ lw_g, w.before args s = true) (hown : s.vm.findClass (RN oc) = some m.cls) (hml : c.maxLocals = nL) (hK : va_K D vwCl tys s) (hR : 1 ≤ Rm.frames ∧ 100 ≤ Rm.locals ∧ cells ≤ Rm.cells ∧ slots ≤ Rm.slots) (hA : Amb ct aC A s s.heap) (hct : ctOk ct)  (hN : ∀ j ls st h, N j ls st h = some res → Go (fun H locs pc la sv => W p l e Rm s m args below meth c H locs cells slots Q (F0 m pc la sv)) D A tys ad aC nL s pcs S r (j) (ls) (st) (h)) (hok : okI id cc pcs ixs oc rk maxL j (.land, nx, lst) = true) (H : ex1 S r ct cl ret N (.land, nx, lst) ls st h = some res) : Go (fun H locs pc la sv => W p l e Rm s m args below meth c H locs cells slots Q (F0 m pc la sv)) D A tys ad aC nL s pcs S r (j) (ls) (st) (h) := by
  unfold ex1 at H
  unfold okI at hok
  dsimp only at H hok
  simp only [Bool.and_eq_true] at hok
  split at H
  · exact go_land hx hb (okD_spec hok.1) (hN _ _ _ _ H)
  · cases H
theorem s1_lor (hx : p.tables.exec = Jvm.exec) (hb : c.code = cc) (hts : ∀ w ∈ lw_g, w.before args s = true) (hown : s.vm.findClass (RN oc) = some m.cls) (hml : c.maxLocals = nL) (hK : va_K D vwCl tys s) (hR : 1 ≤ Rm.frames ∧ 100 ≤ Rm.locals ∧ cells ≤ Rm.cells ∧ slots ≤ Rm.slots) (hA : Amb ct aC A s s.heap) (hct : ctOk ct)  (hN : ∀ j ls st h, N j ls st h = some res → Go (fun H locs pc la sv => W p l e Rm s m args below meth c H locs cells slots Q (F0 m pc la sv)) D A tys ad aC nL s pcs S r (j) (ls) (st) (h)) (hok : okI id cc pcs ixs oc rk maxL j (.lor, nx, lst) = true) (H : ex1 S r ct cl ret N (.lor, nx, lst) ls st h = some res) : Go (fun H locs pc la sv => W p l e Rm s m args below meth c H locs cells slots Q (F0 m pc la sv)) D A tys ad aC nL s pcs S r (j) (ls) (st) (h) := by
  unfold ex1 at H
  unfold okI at hok
  dsimp only at H hok
  simp only [Bool.and_eq_true] at hok
  split at H
  · exact go_lor hx hb (okD_spec hok.1) (hN _ _ _ _ H)
  · cases H
theorem s1_lshl (hx : p.tables.exec = Jvm.exec) (hb : c.code = cc) (hts : ∀ w ∈ lw_g, w.before args s = true) (hown : s.vm.findClass (RN oc) = some m.cls) (hml : c.maxLocals = nL) (hK : va_K D vwCl tys s) (hR : 1 ≤ Rm.frames ∧ 100 ≤ Rm.locals ∧ cells ≤ Rm.cells ∧ slots ≤ Rm.slots) (hA : Amb ct aC A s s.heap) (hct : ctOk ct)  (hN : ∀ j ls st h, N j ls st h = some res → Go (fun H locs pc la sv => W p l e Rm s m args below meth c H locs cells slots Q (F0 m pc la sv)) D A tys ad aC nL s pcs S r (j) (ls) (st) (h)) (hok : okI id cc pcs ixs oc rk maxL j (.lshl, nx, lst) = true) (H : ex1 S r ct cl ret N (.lshl, nx, lst) ls st h = some res) : Go (fun H locs pc la sv => W p l e Rm s m args below meth c H locs cells slots Q (F0 m pc la sv)) D A tys ad aC nL s pcs S r (j) (ls) (st) (h) := by
  unfold ex1 at H
  unfold okI at hok
  dsimp only at H hok
  simp only [Bool.and_eq_true] at hok
  split at H
  · exact go_lshl hx hb (okD_spec hok.1) (hN _ _ _ _ H)
  · cases H
theorem s1_i2l (hx : p.tables.exec = Jvm.exec) (hb : c.code = cc) (hts : ∀ w ∈ lw_g, w.before args s = true) (hown : s.vm.findClass (RN oc) = some m.cls) (hml : c.maxLocals = nL) (hK : va_K D vwCl tys s) (hR : 1 ≤ Rm.frames ∧ 100 ≤ Rm.locals ∧ cells ≤ Rm.cells ∧ slots ≤ Rm.slots) (hA : Amb ct aC A s s.heap) (hct : ctOk ct)  (hN : ∀ j ls st h, N j ls st h = some res → Go (fun H locs pc la sv => W p l e Rm s m args below meth c H locs cells slots Q (F0 m pc la sv)) D A tys ad aC nL s pcs S r (j) (ls) (st) (h)) (hok : okI id cc pcs ixs oc rk maxL j (.i2l, nx, lst) = true) (H : ex1 S r ct cl ret N (.i2l, nx, lst) ls st h = some res) : Go (fun H locs pc la sv => W p l e Rm s m args below meth c H locs cells slots Q (F0 m pc la sv)) D A tys ad aC nL s pcs S r (j) (ls) (st) (h) := by
  unfold ex1 at H
  unfold okI at hok
  dsimp only at H hok
  simp only [Bool.and_eq_true] at hok
  split at H
  · exact go_i2l hx hb (okD_spec hok.1) (hN _ _ _ _ H)
  · cases H
theorem s1_l2i (hx : p.tables.exec = Jvm.exec) (hb : c.code = cc) (hts : ∀ w ∈ lw_g, w.before args s = true) (hown : s.vm.findClass (RN oc) = some m.cls) (hml : c.maxLocals = nL) (hK : va_K D vwCl tys s) (hR : 1 ≤ Rm.frames ∧ 100 ≤ Rm.locals ∧ cells ≤ Rm.cells ∧ slots ≤ Rm.slots) (hA : Amb ct aC A s s.heap) (hct : ctOk ct)  (hN : ∀ j ls st h, N j ls st h = some res → Go (fun H locs pc la sv => W p l e Rm s m args below meth c H locs cells slots Q (F0 m pc la sv)) D A tys ad aC nL s pcs S r (j) (ls) (st) (h)) (hok : okI id cc pcs ixs oc rk maxL j (.l2i, nx, lst) = true) (H : ex1 S r ct cl ret N (.l2i, nx, lst) ls st h = some res) : Go (fun H locs pc la sv => W p l e Rm s m args below meth c H locs cells slots Q (F0 m pc la sv)) D A tys ad aC nL s pcs S r (j) (ls) (st) (h) := by
  unfold ex1 at H
  unfold okI at hok
  dsimp only at H hok
  simp only [Bool.and_eq_true] at hok
  split at H
  · exact go_l2i hx hb (okD_spec hok.1) (hN _ _ _ _ H)
  · cases H
theorem s1_i2b (hx : p.tables.exec = Jvm.exec) (hb : c.code = cc) (hts : ∀ w ∈ lw_g, w.before args s = true) (hown : s.vm.findClass (RN oc) = some m.cls) (hml : c.maxLocals = nL) (hK : va_K D vwCl tys s) (hR : 1 ≤ Rm.frames ∧ 100 ≤ Rm.locals ∧ cells ≤ Rm.cells ∧ slots ≤ Rm.slots) (hA : Amb ct aC A s s.heap) (hct : ctOk ct)  (hN : ∀ j ls st h, N j ls st h = some res → Go (fun H locs pc la sv => W p l e Rm s m args below meth c H locs cells slots Q (F0 m pc la sv)) D A tys ad aC nL s pcs S r (j) (ls) (st) (h)) (hok : okI id cc pcs ixs oc rk maxL j (.i2b, nx, lst) = true) (H : ex1 S r ct cl ret N (.i2b, nx, lst) ls st h = some res) : Go (fun H locs pc la sv => W p l e Rm s m args below meth c H locs cells slots Q (F0 m pc la sv)) D A tys ad aC nL s pcs S r (j) (ls) (st) (h) := by
  unfold ex1 at H
  unfold okI at hok
  dsimp only at H hok
  simp only [Bool.and_eq_true] at hok
  split at H
  · exact go_i2b hx hb (okD_spec hok.1) (hN _ _ _ _ H)
  · cases H
theorem s1_i2s (hx : p.tables.exec = Jvm.exec) (hb : c.code = cc) (hts : ∀ w ∈ lw_g, w.before args s = true) (hown : s.vm.findClass (RN oc) = some m.cls) (hml : c.maxLocals = nL) (hK : va_K D vwCl tys s) (hR : 1 ≤ Rm.frames ∧ 100 ≤ Rm.locals ∧ cells ≤ Rm.cells ∧ slots ≤ Rm.slots) (hA : Amb ct aC A s s.heap) (hct : ctOk ct)  (hN : ∀ j ls st h, N j ls st h = some res → Go (fun H locs pc la sv => W p l e Rm s m args below meth c H locs cells slots Q (F0 m pc la sv)) D A tys ad aC nL s pcs S r (j) (ls) (st) (h)) (hok : okI id cc pcs ixs oc rk maxL j (.i2s, nx, lst) = true) (H : ex1 S r ct cl ret N (.i2s, nx, lst) ls st h = some res) : Go (fun H locs pc la sv => W p l e Rm s m args below meth c H locs cells slots Q (F0 m pc la sv)) D A tys ad aC nL s pcs S r (j) (ls) (st) (h) := by
  unfold ex1 at H
  unfold okI at hok
  dsimp only at H hok
  simp only [Bool.and_eq_true] at hok
  split at H
  · exact go_i2s hx hb (okD_spec hok.1) (hN _ _ _ _ H)
  · cases H
theorem s1_pop (hx : p.tables.exec = Jvm.exec) (hb : c.code = cc) (hts : ∀ w ∈ lw_g, w.before args s = true) (hown : s.vm.findClass (RN oc) = some m.cls) (hml : c.maxLocals = nL) (hK : va_K D vwCl tys s) (hR : 1 ≤ Rm.frames ∧ 100 ≤ Rm.locals ∧ cells ≤ Rm.cells ∧ slots ≤ Rm.slots) (hA : Amb ct aC A s s.heap) (hct : ctOk ct)  (hN : ∀ j ls st h, N j ls st h = some res → Go (fun H locs pc la sv => W p l e Rm s m args below meth c H locs cells slots Q (F0 m pc la sv)) D A tys ad aC nL s pcs S r (j) (ls) (st) (h)) (hok : okI id cc pcs ixs oc rk maxL j (.pop, nx, lst) = true) (H : ex1 S r ct cl ret N (.pop, nx, lst) ls st h = some res) : Go (fun H locs pc la sv => W p l e Rm s m args below meth c H locs cells slots Q (F0 m pc la sv)) D A tys ad aC nL s pcs S r (j) (ls) (st) (h) := by
  unfold ex1 at H
  unfold okI at hok
  dsimp only at H hok
  simp only [Bool.and_eq_true] at hok
  split at H
  · exact go_pop hx hb (okD_spec hok.1) (hN _ _ _ _ H)
  · cases H
theorem s1_dup (hx : p.tables.exec = Jvm.exec) (hb : c.code = cc) (hts : ∀ w ∈ lw_g, w.before args s = true) (hown : s.vm.findClass (RN oc) = some m.cls) (hml : c.maxLocals = nL) (hK : va_K D vwCl tys s) (hR : 1 ≤ Rm.frames ∧ 100 ≤ Rm.locals ∧ cells ≤ Rm.cells ∧ slots ≤ Rm.slots) (hA : Amb ct aC A s s.heap) (hct : ctOk ct)  (hN : ∀ j ls st h, N j ls st h = some res → Go (fun H locs pc la sv => W p l e Rm s m args below meth c H locs cells slots Q (F0 m pc la sv)) D A tys ad aC nL s pcs S r (j) (ls) (st) (h)) (hok : okI id cc pcs ixs oc rk maxL j (.dup, nx, lst) = true) (H : ex1 S r ct cl ret N (.dup, nx, lst) ls st h = some res) : Go (fun H locs pc la sv => W p l e Rm s m args below meth c H locs cells slots Q (F0 m pc la sv)) D A tys ad aC nL s pcs S r (j) (ls) (st) (h) := by
  unfold ex1 at H
  unfold okI at hok
  dsimp only at H hok
  simp only [Bool.and_eq_true] at hok
  split at H
  · exact go_dupI hx hb (okD_spec hok.1) (hN _ _ _ _ H)
  · exact go_dupR hx hb (okD_spec hok.1) (hN _ _ _ _ H)
  · cases H
theorem s1_dup2 (hx : p.tables.exec = Jvm.exec) (hb : c.code = cc) (hts : ∀ w ∈ lw_g, w.before args s = true) (hown : s.vm.findClass (RN oc) = some m.cls) (hml : c.maxLocals = nL) (hK : va_K D vwCl tys s) (hR : 1 ≤ Rm.frames ∧ 100 ≤ Rm.locals ∧ cells ≤ Rm.cells ∧ slots ≤ Rm.slots) (hA : Amb ct aC A s s.heap) (hct : ctOk ct)  (hN : ∀ j ls st h, N j ls st h = some res → Go (fun H locs pc la sv => W p l e Rm s m args below meth c H locs cells slots Q (F0 m pc la sv)) D A tys ad aC nL s pcs S r (j) (ls) (st) (h)) (hok : okI id cc pcs ixs oc rk maxL j (.dup2, nx, lst) = true) (H : ex1 S r ct cl ret N (.dup2, nx, lst) ls st h = some res) : Go (fun H locs pc la sv => W p l e Rm s m args below meth c H locs cells slots Q (F0 m pc la sv)) D A tys ad aC nL s pcs S r (j) (ls) (st) (h) := by
  unfold ex1 at H
  unfold okI at hok
  dsimp only at H hok
  simp only [Bool.and_eq_true] at hok
  split at H
  · exact go_dup2L hx hb (okD_spec hok.1) (hN _ _ _ _ H)
  · exact go_dup2I hx hb (okD_spec hok.1) (hN _ _ _ _ H)
  · exact go_dup2R hx hb (okD_spec hok.1) (hN _ _ _ _ H)
  · cases H
theorem s1_ifCond {cc0 : ClassFile.Cond} {off0 : Int} (hx : p.tables.exec = Jvm.exec) (hb : c.code = cc) (hts : ∀ w ∈ lw_g, w.before args s = true) (hown : s.vm.findClass (RN oc) = some m.cls) (hml : c.maxLocals = nL) (hK : va_K D vwCl tys s) (hR : 1 ≤ Rm.frames ∧ 100 ≤ Rm.locals ∧ cells ≤ Rm.cells ∧ slots ≤ Rm.slots) (hA : Amb ct aC A s s.heap) (hct : ctOk ct)  (hN : ∀ j ls st h, N j ls st h = some res → Go (fun H locs pc la sv => W p l e Rm s m args below meth c H locs cells slots Q (F0 m pc la sv)) D A tys ad aC nL s pcs S r (j) (ls) (st) (h)) (hok : okI id cc pcs ixs oc rk maxL j (.ifCond cc0 off0, nx, lst) = true) (H : ex1 S r ct cl ret N (.ifCond cc0 off0, nx, lst) ls st h = some res) : Go (fun H locs pc la sv => W p l e Rm s m args below meth c H locs cells slots Q (F0 m pc la sv)) D A tys ad aC nL s pcs S r (j) (ls) (st) (h) := by
  unfold ex1 at H
  unfold okI at hok
  dsimp only at H hok
  split at H
  · next x rest c0 t =>
    simp only [Bool.and_eq_true, Nat.ble_eq] at hok
    obtain ⟨⟨h0, h1⟩, h2⟩ := hok
    have hc9 : c0 = 0 ∨ c0 = 1 ∨ c0 = 2 ∨ c0 = 3 ∨ c0 = 4 ∨ c0 = 5 := by omega
    rcases hc9 with rfl | rfl | rfl | rfl | rfl | rfl
    · simp only [pB] at H
      exact go_if_eq hx hb (okD_spec h2) (has_spec h1) (fun pc q => offT_spec pc q) (fun q => hN _ _ _ _ (by rw [if_pos q] at H; exact H)) (fun q => hN _ _ _ _ (by rw [if_neg q] at H; exact H))
    · simp only [pB] at H
      exact go_if_ne hx hb (okD_spec h2) (has_spec h1) (fun pc q => offT_spec pc q) (fun q => hN _ _ _ _ (by rw [if_neg q] at H; exact H)) (fun q => hN _ _ _ _ (by rw [if_pos q] at H; exact H))
    · simp only [pB] at H
      exact go_if_lt hx hb (okD_spec h2) (has_spec h1) (fun pc q => offT_spec pc q) (fun q => hN _ _ _ _ (by rw [if_pos q] at H; exact H)) (fun q => hN _ _ _ _ (by rw [if_neg q] at H; exact H))
    · simp only [pB] at H
      exact go_if_ge hx hb (okD_spec h2) (has_spec h1) (fun pc q => offT_spec pc q) (fun q => hN _ _ _ _ (by rw [if_neg q] at H; exact H)) (fun q => hN _ _ _ _ (by rw [if_pos q] at H; exact H))
    · simp only [pB] at H
      exact go_if_gt hx hb (okD_spec h2) (has_spec h1) (fun pc q => offT_spec pc q) (fun q => hN _ _ _ _ (by rw [if_pos q] at H; exact H)) (fun q => hN _ _ _ _ (by rw [if_neg q] at H; exact H))
    · simp only [pB] at H
      exact go_if_le hx hb (okD_spec h2) (has_spec h1) (fun pc q => offT_spec pc q) (fun q => hN _ _ _ _ (by rw [if_neg q] at H; exact H)) (fun q => hN _ _ _ _ (by rw [if_pos q] at H; exact H))
  · cases H
theorem s1_if_icmp {cc0 : ClassFile.Cond} {off0 : Int} (hx : p.tables.exec = Jvm.exec) (hb : c.code = cc) (hts : ∀ w ∈ lw_g, w.before args s = true) (hown : s.vm.findClass (RN oc) = some m.cls) (hml : c.maxLocals = nL) (hK : va_K D vwCl tys s) (hR : 1 ≤ Rm.frames ∧ 100 ≤ Rm.locals ∧ cells ≤ Rm.cells ∧ slots ≤ Rm.slots) (hA : Amb ct aC A s s.heap) (hct : ctOk ct)  (hN : ∀ j ls st h, N j ls st h = some res → Go (fun H locs pc la sv => W p l e Rm s m args below meth c H locs cells slots Q (F0 m pc la sv)) D A tys ad aC nL s pcs S r (j) (ls) (st) (h)) (hok : okI id cc pcs ixs oc rk maxL j (.if_icmp cc0 off0, nx, lst) = true) (H : ex1 S r ct cl ret N (.if_icmp cc0 off0, nx, lst) ls st h = some res) : Go (fun H locs pc la sv => W p l e Rm s m args below meth c H locs cells slots Q (F0 m pc la sv)) D A tys ad aC nL s pcs S r (j) (ls) (st) (h) := by
  unfold ex1 at H
  unfold okI at hok
  dsimp only at H hok
  split at H
  · next y x rest c0 t =>
    simp only [Bool.and_eq_true, Nat.ble_eq] at hok
    obtain ⟨⟨h0, h1⟩, h2⟩ := hok
    have hc9 : c0 = 0 ∨ c0 = 1 ∨ c0 = 2 ∨ c0 = 3 ∨ c0 = 4 ∨ c0 = 5 := by omega
    rcases hc9 with rfl | rfl | rfl | rfl | rfl | rfl
    · simp only [pB] at H
      exact go_icmp_eq hx hb (okD_spec h2) (has_spec h1) (fun pc q => offT_spec pc q) (fun q => hN _ _ _ _ (by rw [if_pos q] at H; exact H)) (fun q => hN _ _ _ _ (by rw [if_neg q] at H; exact H))
    · simp only [pB] at H
      exact go_icmp_ne hx hb (okD_spec h2) (has_spec h1) (fun pc q => offT_spec pc q) (fun q => hN _ _ _ _ (by rw [if_neg q] at H; exact H)) (fun q => hN _ _ _ _ (by rw [if_pos q] at H; exact H))
    · simp only [pB] at H
      exact go_icmp_lt hx hb (okD_spec h2) (has_spec h1) (fun pc q => offT_spec pc q) (fun q => hN _ _ _ _ (by rw [if_pos q] at H; exact H)) (fun q => hN _ _ _ _ (by rw [if_neg q] at H; exact H))
    · simp only [pB] at H
      exact go_icmp_ge hx hb (okD_spec h2) (has_spec h1) (fun pc q => offT_spec pc q) (fun q => hN _ _ _ _ (by rw [if_neg q] at H; exact H)) (fun q => hN _ _ _ _ (by rw [if_pos q] at H; exact H))
    · simp only [pB] at H
      exact go_icmp_gt hx hb (okD_spec h2) (has_spec h1) (fun pc q => offT_spec pc q) (fun q => hN _ _ _ _ (by rw [if_pos q] at H; exact H)) (fun q => hN _ _ _ _ (by rw [if_neg q] at H; exact H))
    · simp only [pB] at H
      exact go_icmp_le hx hb (okD_spec h2) (has_spec h1) (fun pc q => offT_spec pc q) (fun q => hN _ _ _ _ (by rw [if_neg q] at H; exact H)) (fun q => hN _ _ _ _ (by rw [if_pos q] at H; exact H))
  · cases H
theorem s1_lcmp (hx : p.tables.exec = Jvm.exec) (hb : c.code = cc) (hts : ∀ w ∈ lw_g, w.before args s = true) (hown : s.vm.findClass (RN oc) = some m.cls) (hml : c.maxLocals = nL) (hK : va_K D vwCl tys s) (hR : 1 ≤ Rm.frames ∧ 100 ≤ Rm.locals ∧ cells ≤ Rm.cells ∧ slots ≤ Rm.slots) (hA : Amb ct aC A s s.heap) (hct : ctOk ct)  (hN : ∀ j ls st h, N j ls st h = some res → Go (fun H locs pc la sv => W p l e Rm s m args below meth c H locs cells slots Q (F0 m pc la sv)) D A tys ad aC nL s pcs S r (j) (ls) (st) (h)) (hok : okI id cc pcs ixs oc rk maxL j (.lcmp, nx, lst) = true) (H : ex1 S r ct cl ret N (.lcmp, nx, lst) ls st h = some res) : Go (fun H locs pc la sv => W p l e Rm s m args below meth c H locs cells slots Q (F0 m pc la sv)) D A tys ad aC nL s pcs S r (j) (ls) (st) (h) := by
  unfold ex1 at H
  unfold okI at hok
  dsimp only at H hok
  split at H
  · next y x rest c0 t =>
    simp only [Bool.and_eq_true, Nat.ble_eq] at hok
    obtain ⟨⟨⟨h0, h1⟩, h2⟩, h3⟩ := hok
    have hc9 : c0 = 0 ∨ c0 = 1 ∨ c0 = 2 ∨ c0 = 3 ∨ c0 = 4 ∨ c0 = 5 := by omega
    rcases hc9 with rfl | rfl | rfl | rfl | rfl | rfl
    · simp only [pB] at H
      exact go_lcmp_eq hx hb (nx0 := 0) (okD_spec h2) (okD_spec h3) (has_spec h1) (fun pc q => offT_spec pc q) (fun q => hN _ _ _ _ (by rw [if_pos q] at H; exact H)) (fun q => hN _ _ _ _ (by rw [if_neg q] at H; exact H))
    · simp only [pB] at H
      exact go_lcmp_ne hx hb (nx0 := 0) (okD_spec h2) (okD_spec h3) (has_spec h1) (fun pc q => offT_spec pc q) (fun q => hN _ _ _ _ (by rw [if_neg q] at H; exact H)) (fun q => hN _ _ _ _ (by rw [if_pos q] at H; exact H))
    · simp only [pB] at H
      exact go_lcmp_lt hx hb (nx0 := 0) (okD_spec h2) (okD_spec h3) (has_spec h1) (fun pc q => offT_spec pc q) (fun q => hN _ _ _ _ (by rw [if_pos q] at H; exact H)) (fun q => hN _ _ _ _ (by rw [if_neg q] at H; exact H))
    · simp only [pB] at H
      exact go_lcmp_ge hx hb (nx0 := 0) (okD_spec h2) (okD_spec h3) (has_spec h1) (fun pc q => offT_spec pc q) (fun q => hN _ _ _ _ (by rw [if_neg q] at H; exact H)) (fun q => hN _ _ _ _ (by rw [if_pos q] at H; exact H))
    · simp only [pB] at H
      exact go_lcmp_gt hx hb (nx0 := 0) (okD_spec h2) (okD_spec h3) (has_spec h1) (fun pc q => offT_spec pc q) (fun q => hN _ _ _ _ (by rw [if_pos q] at H; exact H)) (fun q => hN _ _ _ _ (by rw [if_neg q] at H; exact H))
    · simp only [pB] at H
      exact go_lcmp_le hx hb (nx0 := 0) (okD_spec h2) (okD_spec h3) (has_spec h1) (fun pc q => offT_spec pc q) (fun q => hN _ _ _ _ (by rw [if_neg q] at H; exact H)) (fun q => hN _ _ _ _ (by rw [if_pos q] at H; exact H))
  · cases H
theorem s1_goto (hx : p.tables.exec = Jvm.exec) (hb : c.code = cc) (hts : ∀ w ∈ lw_g, w.before args s = true) (hown : s.vm.findClass (RN oc) = some m.cls) (hml : c.maxLocals = nL) (hK : va_K D vwCl tys s) (hR : 1 ≤ Rm.frames ∧ 100 ≤ Rm.locals ∧ cells ≤ Rm.cells ∧ slots ≤ Rm.slots) (hA : Amb ct aC A s s.heap) (hct : ctOk ct) {off0 : Int} (hN : ∀ j ls st h, N j ls st h = some res → Go (fun H locs pc la sv => W p l e Rm s m args below meth c H locs cells slots Q (F0 m pc la sv)) D A tys ad aC nL s pcs S r (j) (ls) (st) (h)) (hok : okI id cc pcs ixs oc rk maxL j (.goto off0, nx, lst) = true) (H : ex1 S r ct cl ret N (.goto off0, nx, lst) ls st h = some res) : Go (fun H locs pc la sv => W p l e Rm s m args below meth c H locs cells slots Q (F0 m pc la sv)) D A tys ad aC nL s pcs S r (j) (ls) (st) (h) := by
  unfold ex1 at H
  unfold okI at hok
  dsimp only at H hok
  split at H
  · next t =>
    simp only [Bool.and_eq_true] at hok
    exact go_goto hx hb (okD_spec hok.2) (has_spec hok.1) (fun pc q => offT_spec pc q) (hN _ _ _ _ H)
  · cases H
theorem s1_getfield (hx : p.tables.exec = Jvm.exec) (hb : c.code = cc) (hts : ∀ w ∈ lw_g, w.before args s = true) (hown : s.vm.findClass (RN oc) = some m.cls) (hml : c.maxLocals = nL) (hK : va_K D vwCl tys s) (hR : 1 ≤ Rm.frames ∧ 100 ≤ Rm.locals ∧ cells ≤ Rm.cells ∧ slots ≤ Rm.slots) (hA : Amb ct aC A s s.heap) (hct : ctOk ct) {k : Nat} (hN : ∀ j ls st h, N j ls st h = some res → Go (fun H locs pc la sv => W p l e Rm s m args below meth c H locs cells slots Q (F0 m pc la sv)) D A tys ad aC nL s pcs S r (j) (ls) (st) (h)) (hok : okI id cc pcs ixs oc rk maxL j (.getfield k, nx, lst) = true) (H : ex1 S r ct cl ret N (.getfield k, nx, lst) ls st h = some res) : Go (fun H locs pc la sv => W p l e Rm s m args below meth c H locs cells slots Q (F0 m pc la sv)) D A tys ad aC nL s pcs S r (j) (ls) (st) (h) := by
  unfold ex1 at H
  unfold okI at hok
  dsimp only at H hok
  split at H
  · next a rest ci ty =>
    simp only [Bool.and_eq_true] at hok
    obtain ⟨⟨h1, h2⟩, h3⟩ := hok
    split at h3
    · next f hf =>
      split at h3
      · next t ht =>
        obtain ⟨C, N9, hc, hl9, hin, -, -⟩ := vwT_facts hf
        have hk9 : k < N9 := by rw [← hl9]; exact nth_lt ht
        have hlk := hts _ (FLl_ok (mem_f h1))
        split at H
        · next ho9 =>
          have ho := mObj_spec ho9
          split at H
          · exact go_getI hx hb hts hin hown hK hc hf ht hk9 hlk rfl ho (of_decide_eq_true h3) (okD_spec h2) (hN _ _ _ _ H)
          · simp only [Bool.and_eq_true] at h3
            exact go_getL hx hb hts hin hown hK hc hf ht hk9 hlk rfl ho (Nat.eq_of_beq_eq_true h3.1) (okD_spec h2) (hN _ _ _ _ H)
          · simp only [Bool.and_eq_true] at h3
            split at H
            · next l hl =>
              split at H
              · next b hb9 =>
                exact go_getR hx hb hts hin hown hK hc hf ht hk9 hlk rfl ho (Nat.eq_of_beq_eq_true h3.1) (by unfold rfAt; rw [hl]; dsimp only; rw [hb9]) (okD_spec h2) (hN _ _ _ _ H)
              · cases H
            · cases H
          · cases H
        · cases H
      · cases h3
    · cases h3
  · cases H
theorem s1_putfield (hx : p.tables.exec = Jvm.exec) (hb : c.code = cc) (hts : ∀ w ∈ lw_g, w.before args s = true) (hown : s.vm.findClass (RN oc) = some m.cls) (hml : c.maxLocals = nL) (hK : va_K D vwCl tys s) (hR : 1 ≤ Rm.frames ∧ 100 ≤ Rm.locals ∧ cells ≤ Rm.cells ∧ slots ≤ Rm.slots) (hA : Amb ct aC A s s.heap) (hct : ctOk ct) {k : Nat} (hN : ∀ j ls st h, N j ls st h = some res → Go (fun H locs pc la sv => W p l e Rm s m args below meth c H locs cells slots Q (F0 m pc la sv)) D A tys ad aC nL s pcs S r (j) (ls) (st) (h)) (hok : okI id cc pcs ixs oc rk maxL j (.putfield k, nx, lst) = true) (H : ex1 S r ct cl ret N (.putfield k, nx, lst) ls st h = some res) : Go (fun H locs pc la sv => W p l e Rm s m args below meth c H locs cells slots Q (F0 m pc la sv)) D A tys ad aC nL s pcs S r (j) (ls) (st) (h) := by
  unfold ex1 at H
  unfold okI at hok
  dsimp only at H hok
  split at H
  · next ci ty =>
    simp only [Bool.and_eq_true] at hok
    obtain ⟨⟨h1, h2⟩, h3⟩ := hok
    split at h3
    · next f hf =>
      split at h3
      · next t ht =>
        simp only [Bool.and_eq_true, Bool.or_eq_true, beq_iff_eq] at h3
        obtain ⟨C, N9, hc, hl9, hin, ⟨ty0, hty, hty2⟩, hnm⟩ := vwT_facts hf
        have hk9 : k < N9 := by rw [← hl9]; exact nth_lt ht
        have hlk := hts _ (FLl_ok (mem_f h1))
        have e3 := Nat.eq_of_beq_eq_true h3.1
        have hfin : t ≠ 2 → (vwT ci k).2.2.2 = false := fun q => by
          rcases h3.2 with z | z
          · exact z
          · exact absurd (Nat.eq_of_beq_eq_true z.1.1) q
        split at H
        · subst e3
          split at H
          · split at H
            · next ho9 =>
              have ho := mObj_spec ho9
              exact go_putI hx hb hts hin hown hK hc hf ht hk9 hlk rfl ho ty0 hty hnm (hfin (by decide)) rfl (by have := hty2 _ _ ht; revert this; cases ty0 k <;> simp [tyC]) (okD_spec h2) (hN _ _ _ _ H)
            · cases H
          · cases H
        · subst e3
          split at H
          · split at H
            · next ho9 =>
              have ho := mObj_spec ho9
              exact go_putL hx hb hts hin hown hK hc hf ht hk9 hlk rfl ho ty0 hty hnm (hfin (by decide)) rfl (by have := hty2 _ _ ht; revert this; cases ty0 k <;> simp [tyC]) (okD_spec h2) (hN _ _ _ _ H)
            · cases H
          · cases H
        · subst e3
          split at H
          · split at H
            · next ho9 =>
              have ho := mObj_spec ho9
              split at H
              · next g =>
                exact go_putZ hx hb hts hin hown hK hc hf ht hk9 hlk rfl ho ty0 hty hnm (hfin (by decide)) rfl (by have := hty2 _ _ ht; revert this; cases ty0 k <;> simp [tyC]) g (okD_spec h2) (hN _ _ _ _ H)
              · cases H
            · cases H
          · cases H
        · cases H
      · cases h3
    · cases h3
  · cases H
theorem s1_iaload (hx : p.tables.exec = Jvm.exec) (hb : c.code = cc) (hts : ∀ w ∈ lw_g, w.before args s = true) (hown : s.vm.findClass (RN oc) = some m.cls) (hml : c.maxLocals = nL) (hK : va_K D vwCl tys s) (hR : 1 ≤ Rm.frames ∧ 100 ≤ Rm.locals ∧ cells ≤ Rm.cells ∧ slots ≤ Rm.slots) (hA : Amb ct aC A s s.heap) (hct : ctOk ct)  (hN : ∀ j ls st h, N j ls st h = some res → Go (fun H locs pc la sv => W p l e Rm s m args below meth c H locs cells slots Q (F0 m pc la sv)) D A tys ad aC nL s pcs S r (j) (ls) (st) (h)) (hok : okI id cc pcs ixs oc rk maxL j (.iaload, nx, lst) = true) (H : ex1 S r ct cl ret N (.iaload, nx, lst) ls st h = some res) : Go (fun H locs pc la sv => W p l e Rm s m args below meth c H locs cells slots Q (F0 m pc la sv)) D A tys ad aC nL s pcs S r (j) (ls) (st) (h) := by
  unfold ex1 at H
  unfold okI at hok
  dsimp only at H hok
  simp only [Bool.and_eq_true] at hok
  split at H
  · split at H
    · next n hn =>
      split at H
      · next g => exact go_iaload hx hb hK (mArr_spec hn) g (okD_spec hok.1) (hN _ _ _ _ H)
      · cases H
    · cases H
  · next k0 _ =>
    split at H
    · next hk0 =>
      split at H
      · next g =>
        exact go_cload hx hb (hA.1 _ (Nat.le_add_left _ _) (Nat.succ_le_succ (Nat.le_of_ble_eq_true hk0))) (hct _).1 g (okD_spec hok.1) (hN _ _ _ _ H)
      · cases H
    · cases H
  · cases H
theorem s1_laload (hx : p.tables.exec = Jvm.exec) (hb : c.code = cc) (hts : ∀ w ∈ lw_g, w.before args s = true) (hown : s.vm.findClass (RN oc) = some m.cls) (hml : c.maxLocals = nL) (hK : va_K D vwCl tys s) (hR : 1 ≤ Rm.frames ∧ 100 ≤ Rm.locals ∧ cells ≤ Rm.cells ∧ slots ≤ Rm.slots) (hA : Amb ct aC A s s.heap) (hct : ctOk ct)  (hN : ∀ j ls st h, N j ls st h = some res → Go (fun H locs pc la sv => W p l e Rm s m args below meth c H locs cells slots Q (F0 m pc la sv)) D A tys ad aC nL s pcs S r (j) (ls) (st) (h)) (hok : okI id cc pcs ixs oc rk maxL j (.laload, nx, lst) = true) (H : ex1 S r ct cl ret N (.laload, nx, lst) ls st h = some res) : Go (fun H locs pc la sv => W p l e Rm s m args below meth c H locs cells slots Q (F0 m pc la sv)) D A tys ad aC nL s pcs S r (j) (ls) (st) (h) := by
  unfold ex1 at H
  unfold okI at hok
  dsimp only at H hok
  simp only [Bool.and_eq_true] at hok
  split at H
  · split at H
    · next n hn =>
      split at H
      · next g => exact go_laload hx hb hK (mArr_spec hn) g (okD_spec hok.1) (hN _ _ _ _ H)
      · cases H
    · cases H
  · cases H
theorem s1_baload (hx : p.tables.exec = Jvm.exec) (hb : c.code = cc) (hts : ∀ w ∈ lw_g, w.before args s = true) (hown : s.vm.findClass (RN oc) = some m.cls) (hml : c.maxLocals = nL) (hK : va_K D vwCl tys s) (hR : 1 ≤ Rm.frames ∧ 100 ≤ Rm.locals ∧ cells ≤ Rm.cells ∧ slots ≤ Rm.slots) (hA : Amb ct aC A s s.heap) (hct : ctOk ct)  (hN : ∀ j ls st h, N j ls st h = some res → Go (fun H locs pc la sv => W p l e Rm s m args below meth c H locs cells slots Q (F0 m pc la sv)) D A tys ad aC nL s pcs S r (j) (ls) (st) (h)) (hok : okI id cc pcs ixs oc rk maxL j (.baload, nx, lst) = true) (H : ex1 S r ct cl ret N (.baload, nx, lst) ls st h = some res) : Go (fun H locs pc la sv => W p l e Rm s m args below meth c H locs cells slots Q (F0 m pc la sv)) D A tys ad aC nL s pcs S r (j) (ls) (st) (h) := by
  unfold ex1 at H
  unfold okI at hok
  dsimp only at H hok
  simp only [Bool.and_eq_true] at hok
  split at H
  · split at H
    · next n hn =>
      split at H
      · next g => exact go_baload hx hb hK (mArr_spec hn) g (okD_spec hok.1) (hN _ _ _ _ H)
      · cases H
    · cases H
  · cases H
theorem s1_iastore (hx : p.tables.exec = Jvm.exec) (hb : c.code = cc) (hts : ∀ w ∈ lw_g, w.before args s = true) (hown : s.vm.findClass (RN oc) = some m.cls) (hml : c.maxLocals = nL) (hK : va_K D vwCl tys s) (hR : 1 ≤ Rm.frames ∧ 100 ≤ Rm.locals ∧ cells ≤ Rm.cells ∧ slots ≤ Rm.slots) (hA : Amb ct aC A s s.heap) (hct : ctOk ct)  (hN : ∀ j ls st h, N j ls st h = some res → Go (fun H locs pc la sv => W p l e Rm s m args below meth c H locs cells slots Q (F0 m pc la sv)) D A tys ad aC nL s pcs S r (j) (ls) (st) (h)) (hok : okI id cc pcs ixs oc rk maxL j (.iastore, nx, lst) = true) (H : ex1 S r ct cl ret N (.iastore, nx, lst) ls st h = some res) : Go (fun H locs pc la sv => W p l e Rm s m args below meth c H locs cells slots Q (F0 m pc la sv)) D A tys ad aC nL s pcs S r (j) (ls) (st) (h) := by
  unfold ex1 at H
  unfold okI at hok
  dsimp only at H hok
  simp only [Bool.and_eq_true] at hok
  split at H
  · split at H
    · next n hn =>
      split at H
      · next g => exact go_iastore hx hb hK (mArr_spec hn) g (okD_spec hok.1) (hN _ _ _ _ H)
      · cases H
    · cases H
  · cases H
theorem s1_lastore (hx : p.tables.exec = Jvm.exec) (hb : c.code = cc) (hts : ∀ w ∈ lw_g, w.before args s = true) (hown : s.vm.findClass (RN oc) = some m.cls) (hml : c.maxLocals = nL) (hK : va_K D vwCl tys s) (hR : 1 ≤ Rm.frames ∧ 100 ≤ Rm.locals ∧ cells ≤ Rm.cells ∧ slots ≤ Rm.slots) (hA : Amb ct aC A s s.heap) (hct : ctOk ct)  (hN : ∀ j ls st h, N j ls st h = some res → Go (fun H locs pc la sv => W p l e Rm s m args below meth c H locs cells slots Q (F0 m pc la sv)) D A tys ad aC nL s pcs S r (j) (ls) (st) (h)) (hok : okI id cc pcs ixs oc rk maxL j (.lastore, nx, lst) = true) (H : ex1 S r ct cl ret N (.lastore, nx, lst) ls st h = some res) : Go (fun H locs pc la sv => W p l e Rm s m args below meth c H locs cells slots Q (F0 m pc la sv)) D A tys ad aC nL s pcs S r (j) (ls) (st) (h) := by
  unfold ex1 at H
  unfold okI at hok
  dsimp only at H hok
  simp only [Bool.and_eq_true] at hok
  split at H
  · split at H
    · next n hn =>
      split at H
      · next g => exact go_lastore hx hb hK (mArr_spec hn) g (okD_spec hok.1) (hN _ _ _ _ H)
      · cases H
    · cases H
  · cases H
theorem s1_bastore (hx : p.tables.exec = Jvm.exec) (hb : c.code = cc) (hts : ∀ w ∈ lw_g, w.before args s = true) (hown : s.vm.findClass (RN oc) = some m.cls) (hml : c.maxLocals = nL) (hK : va_K D vwCl tys s) (hR : 1 ≤ Rm.frames ∧ 100 ≤ Rm.locals ∧ cells ≤ Rm.cells ∧ slots ≤ Rm.slots) (hA : Amb ct aC A s s.heap) (hct : ctOk ct)  (hN : ∀ j ls st h, N j ls st h = some res → Go (fun H locs pc la sv => W p l e Rm s m args below meth c H locs cells slots Q (F0 m pc la sv)) D A tys ad aC nL s pcs S r (j) (ls) (st) (h)) (hok : okI id cc pcs ixs oc rk maxL j (.bastore, nx, lst) = true) (H : ex1 S r ct cl ret N (.bastore, nx, lst) ls st h = some res) : Go (fun H locs pc la sv => W p l e Rm s m args below meth c H locs cells slots Q (F0 m pc la sv)) D A tys ad aC nL s pcs S r (j) (ls) (st) (h) := by
  unfold ex1 at H
  unfold okI at hok
  dsimp only at H hok
  simp only [Bool.and_eq_true] at hok
  split at H
  · split at H
    · next n hn =>
      split at H
      · next g =>
        split at H
        · next g2 => exact go_bastore hx hb hK (mArr_spec hn) g g2 (okD_spec hok.1) (hN _ _ _ _ H)
        · cases H
      · cases H
    · cases H
  · cases H
theorem s1_dadd (hx : p.tables.exec = Jvm.exec) (hb : c.code = cc) (hts : ∀ w ∈ lw_g, w.before args s = true) (hown : s.vm.findClass (RN oc) = some m.cls) (hml : c.maxLocals = nL) (hK : va_K D vwCl tys s) (hR : 1 ≤ Rm.frames ∧ 100 ≤ Rm.locals ∧ cells ≤ Rm.cells ∧ slots ≤ Rm.slots) (hA : Amb ct aC A s s.heap) (hct : ctOk ct)  (hN : ∀ j ls st h, N j ls st h = some res → Go (fun H locs pc la sv => W p l e Rm s m args below meth c H locs cells slots Q (F0 m pc la sv)) D A tys ad aC nL s pcs S r (j) (ls) (st) (h)) (hok : okI id cc pcs ixs oc rk maxL j (.dadd, nx, lst) = true) (H : ex1 S r ct cl ret N (.dadd, nx, lst) ls st h = some res) : Go (fun H locs pc la sv => W p l e Rm s m args below meth c H locs cells slots Q (F0 m pc la sv)) D A tys ad aC nL s pcs S r (j) (ls) (st) (h) := by
  unfold ex1 at H
  unfold okI at hok
  dsimp only at H hok
  simp only [Bool.and_eq_true] at hok
  split at H
  · obtain ⟨w8, H⟩ := few_spec H
    exact go_max hx hb hown (hts _ (JMl_ok (mem_elem hok.1))) (hts _ mathS_0) (hts _ mathI) (hts _ mathC_0) hml hR w8 (okD_spec hok.2) (hN _ _ _ _ H)
  · cases H
theorem s1_dsub (hx : p.tables.exec = Jvm.exec) (hb : c.code = cc) (hts : ∀ w ∈ lw_g, w.before args s = true) (hown : s.vm.findClass (RN oc) = some m.cls) (hml : c.maxLocals = nL) (hK : va_K D vwCl tys s) (hR : 1 ≤ Rm.frames ∧ 100 ≤ Rm.locals ∧ cells ≤ Rm.cells ∧ slots ≤ Rm.slots) (hA : Amb ct aC A s s.heap) (hct : ctOk ct)  (hN : ∀ j ls st h, N j ls st h = some res → Go (fun H locs pc la sv => W p l e Rm s m args below meth c H locs cells slots Q (F0 m pc la sv)) D A tys ad aC nL s pcs S r (j) (ls) (st) (h)) (hok : okI id cc pcs ixs oc rk maxL j (.dsub, nx, lst) = true) (H : ex1 S r ct cl ret N (.dsub, nx, lst) ls st h = some res) : Go (fun H locs pc la sv => W p l e Rm s m args below meth c H locs cells slots Q (F0 m pc la sv)) D A tys ad aC nL s pcs S r (j) (ls) (st) (h) := by
  unfold ex1 at H
  unfold okI at hok
  dsimp only at H hok
  simp only [Bool.and_eq_true] at hok
  split at H
  · obtain ⟨w8, H⟩ := few_spec H
    exact go_min hx hb hown (hts _ (JMl_ok (mem_elem hok.1))) (hts _ mathS_1) (hts _ mathI) (hts _ mathC_1) hml hR w8 (okD_spec hok.2) (hN _ _ _ _ H)
  · cases H
theorem s1_dmul (hx : p.tables.exec = Jvm.exec) (hb : c.code = cc) (hts : ∀ w ∈ lw_g, w.before args s = true) (hown : s.vm.findClass (RN oc) = some m.cls) (hml : c.maxLocals = nL) (hK : va_K D vwCl tys s) (hR : 1 ≤ Rm.frames ∧ 100 ≤ Rm.locals ∧ cells ≤ Rm.cells ∧ slots ≤ Rm.slots) (hA : Amb ct aC A s s.heap) (hct : ctOk ct)  (hN : ∀ j ls st h, N j ls st h = some res → Go (fun H locs pc la sv => W p l e Rm s m args below meth c H locs cells slots Q (F0 m pc la sv)) D A tys ad aC nL s pcs S r (j) (ls) (st) (h)) (hok : okI id cc pcs ixs oc rk maxL j (.dmul, nx, lst) = true) (H : ex1 S r ct cl ret N (.dmul, nx, lst) ls st h = some res) : Go (fun H locs pc la sv => W p l e Rm s m args below meth c H locs cells slots Q (F0 m pc la sv)) D A tys ad aC nL s pcs S r (j) (ls) (st) (h) := by
  unfold ex1 at H
  unfold okI at hok
  dsimp only at H hok
  simp only [Bool.and_eq_true] at hok
  split at H
  · obtain ⟨w8, H⟩ := few_spec H
    exact go_maxL hx hb hown (hts _ (JMl_ok (mem_elem hok.1))) (hts _ mathS_3) (hts _ mathI) (hts _ mathC_3) hml hR w8 (okD_spec hok.2) (hN _ _ _ _ H)
  · cases H
theorem s1_dneg (hx : p.tables.exec = Jvm.exec) (hb : c.code = cc) (hts : ∀ w ∈ lw_g, w.before args s = true) (hown : s.vm.findClass (RN oc) = some m.cls) (hml : c.maxLocals = nL) (hK : va_K D vwCl tys s) (hR : 1 ≤ Rm.frames ∧ 100 ≤ Rm.locals ∧ cells ≤ Rm.cells ∧ slots ≤ Rm.slots) (hA : Amb ct aC A s s.heap) (hct : ctOk ct)  (hN : ∀ j ls st h, N j ls st h = some res → Go (fun H locs pc la sv => W p l e Rm s m args below meth c H locs cells slots Q (F0 m pc la sv)) D A tys ad aC nL s pcs S r (j) (ls) (st) (h)) (hok : okI id cc pcs ixs oc rk maxL j (.dneg, nx, lst) = true) (H : ex1 S r ct cl ret N (.dneg, nx, lst) ls st h = some res) : Go (fun H locs pc la sv => W p l e Rm s m args below meth c H locs cells slots Q (F0 m pc la sv)) D A tys ad aC nL s pcs S r (j) (ls) (st) (h) := by
  unfold ex1 at H
  unfold okI at hok
  dsimp only at H hok
  simp only [Bool.and_eq_true] at hok
  split at H
  · obtain ⟨w8, H⟩ := few_spec H
    split at H
    · next g => exact go_abs hx hb hown (hts _ (JMl_ok (mem_elem hok.1))) (hts _ mathS_2) (hts _ mathI) (hts _ mathC_2) hml hR w8 g (okD_spec hok.2) (hN _ _ _ _ H)
    · cases H
  · cases H
end
