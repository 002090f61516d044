/-! THE INDUCTION: bodies and contracts at once -/
theorem grow_len {S S' : mSh} (h : Grow S S') : S.length ≤ S'.length ∧ slo S ≤ slo S' := by
  obtain ⟨T, rfl⟩ := h
  rw [List.length_append, slo_app]
  omega
def Fx (ct : Nat → List Int) (aC : Nat → Nat) (A : Nat → Prop) (p : Program) (Rm : Room) (s : State) (m : MethodId) (args : Array Value) (meth : Method) (c : Code) (id d : Nat) : Prop :=
  p.tables.exec = Jvm.exec ∧ c.code = mtB id ∧ (∀ w ∈ lw_g, w.before args s = true) ∧ s.vm.findClass (RN (mtO id)) = some m.cls ∧ c.maxLocals = (PP id).2 ∧ Amb ct aC A s s.heap ∧ (∀ q, s.heap.size ≤ q → A q) ∧ 40 * d + mtK id + 5 ≤ Rm.frames ∧ 128 * (40 * d + mtK id + 5) ≤ Rm.locals ∧ ((mtY id).name = "<init>" → meth.name = "<init>")
def SimB (ct : Nat → List Int) (n : Nat) : Prop :=
  ∀ (p : Program) (l : Launch) (e : Env) (Rm : Room) (s : State) (m : MethodId) (args : Array Value) (below : List Frame) (meth : Method) (c : Code) (Q : State → Prop) (D : va_G) (A : Nat → Prop) (aC : Nat → Nat) (id d : Nat), Fx ct aC A p Rm s m args meth c id d →
    ∀ (j : Nat) (ls st : List mv) (g : mH) (res : List mv × mH) (ad : Nat → Nat) (tys : List (ClassId × FieldType)) (cells slots CE SE : Nat), exR PP ct n d (PP id).1 j ls st g = some res → rOk g.1 g.2.1 → va_K D vwCl tys s → cells + res.2.1.length = CE + g.1.length → slots + slo res.2.1 = SE + slo g.1 → CE ≤ Rm.cells → SE ≤ Rm.slots →
      (∀ (ad' : Nat → Nat) (tys' : List (ClassId × FieldType)) (j' : Nat) (ls' : List mv), (∀ a, a < g.1.length → ad' a = ad a) → RT (mtB id) (mtP id) id j' res.1 → va_K D vwCl tys' s → Go (fun H locs pc la sv => W p l e Rm s m args below meth c H locs CE SE Q (F0 m pc la sv)) D A tys' ad' aC (PP id).2 s (mtP id) res.2.1 res.2.2.1 j' ls' res.1 res.2.2.2) →
      Go (fun H locs pc la sv => W p l e Rm s m args below meth c H locs cells slots Q (F0 m pc la sv)) D A tys ad aC (PP id).2 s (mtP id) g.1 g.2.1 j ls st g.2.2
def SimM (ct : Nat → List Int) (n : Nat) : Prop :=
  ∀ (l : Launch) (D : va_G) (aC : Nat → Nat) (d id : Nat) (args : List mv) (g : mH) (res : List mv × mH), id < 357 → exR PP ct n d (PP id).1 0 (mPad (PP id).2 (mEntry args)) [] g = some res → MetM l D ct aC d id args g res
set_option maxRecDepth 100000 in
theorem pc_first : (List.range 357).all (fun id => decide (nth (mtP id) 0 = some 0)) = true := by decide +kernel
theorem pc_0 {id : Nat} (h : id < 357) : nth (mtP id) 0 = some 0 := of_decide_eq_true (List.all_eq_true.mp pc_first id (List.mem_range.mpr h))
theorem simM_of {ct : Nat → List Int} (hC : Chk) {n : Nat} (hB : SimB ct n) : SimM ct n := by
  intro l D aC d id args g res hid hrun tys ws ad sz hw hca hwd hm hr
  obtain ⟨f1, f2, f3, f4, f5, f6, f7, f8⟩ := mt_facts hid
  obtain ⟨r1, r2⟩ := exR_grow hC ct n d id 0 _ [] g hr res hrun
  obtain ⟨g1, g2⟩ := grow_len r2
  refine Met.ofW (cc := mtB id) (maxL := (PP id).2) (ret := mtR id) f2 rfl ?_
  intro p e s m args' below meth c s₁ B hml hv
  obtain ⟨rfl, hsz, hP, hD0, hK, hA⟩ := hv
  have hx := B.exec
  have hb := B.bytes
  have hrt := B.returns
  have hts := atoms_spec (ws := wsM id) B.pre
  have hown : s.vm.findClass (mtY id).cls = some m.cls := findClass_of_methodNamed B.named
  have hlocks := B.notSynchronized
  have hin : meth.name = (mtY id).name := (name_of_methodNamed B.named B.method).1
  subst hsz
  have hD := hD0.self (sz := s.heap.size)
  have hl := lv_entry (args.map (rV ad aC)) (n := (PP id).2) (by rw [lg_len]; exact hwd)
  rw [lg_entry_eq]
  generalize (lg_sl (args.map (rV ad aC)) ++ List.replicate ((PP id).2 - (lg_sl (args.map (rV ad aC))).length) Slot.unset).toArray = la at hl ⊢
  have hl := asc_entry hl
  have fx : Fx ct aC (va_A ws s.heap.size) p (headSpec (wsM id) (rmU (40 * d + mtK id + 5) (res.2.1.length - g.1.length) (slo res.2.1 - slo g.1))).room s m (args.map (rV ad aC)).toArray meth c id d :=
    ⟨hx, hb, fun w hw => hts w (List.mem_cons_of_mem _ hw), by rw [← f7]; exact hown, hml, hA, fun q h => Or.inr h, Nat.le_refl _, Nat.le_refl _, fun z => hin.trans z⟩
  have G := hB p l e _ s m _ below meth c (MQ below (QcM D (va_A ws s.heap.size) ad g.1.length res) (args.map (rV ad aC)).toArray s (res.2.1.length - g.1.length) (slo res.2.1 - slo g.1) (va_A ws s.heap.size)) D _ aC id d fx 0 _ [] g res ad tys 0 0 (res.2.1.length - g.1.length) (slo res.2.1 - slo g.1) hrun hr hK (by omega) (by omega) (Nat.le_refl _) (Nat.le_refl _) (by
    intro ad' tys' j' ls' hag hRT hK' ws' H locs la' pc hpc hL hl' hs' hm' hw' hP' hD' hS' hv'
    obtain ⟨rv, g'⟩ := res
    dsimp only at hRT hs' hm' hw' ⊢
    rcases hRT with ⟨rfl, hdc, hrt2⟩ | ⟨x, rfl, hdc, hrt2⟩ | ⟨x, rfl, hdc, hrt2⟩ | ⟨a, C, rfl, hdc, hrt2⟩
    · exact W.vret hx hb (hrt.trans hrt2) (fun t ht hW => (show (∃ u : Nat → Nat, Outcome.returned none = .returned none ∧ True ∧ Beh D (va_A ws s.heap.size) ad g.1.length [] g' u t) ∧ va_F (va_A ws s.heap.size) s t from ⟨⟨ad', rfl, trivial, tys', ws', hag, hs', hm', hw', by rw [ht]; exact hP', hD', va_K.moved hW.alike hK'⟩, hS'.F ht⟩)) hS'.2.2 (hdc pc hpc)
    · rcases hrt2 with hrt2 | ⟨hrt2, hx0, hx1⟩
      · exact W.iret (v := Int32.ofInt x) hx hb (hrt.trans hrt2) (fun t ht hW => (show (∃ (r : Int32) (u : Nat → Nat), Outcome.returned (some (.int (Int32.ofInt x))) = .returned (some (.int r)) ∧ r = Int32.ofInt x ∧ Beh D (va_A ws s.heap.size) ad g.1.length [mI x] g' u t) ∧ va_F (va_A ws s.heap.size) s t from ⟨⟨_, ad', rfl, rfl, tys', ws', hag, hs', hm', hw', by rw [ht]; exact hP', hD', va_K.moved hW.alike hK'⟩, hS'.F ht⟩)) hS'.2.2 (hdc pc hpc)
      · exact W.zret (v := Int32.ofInt x) (ty := .boolean) hx hb (hrt.trans hrt2) (by rcases (show x = 0 ∨ x = 1 by omega) with rfl | rfl <;> rfl) (fun t ht hW => (show (∃ (r : Int32) (u : Nat → Nat), Outcome.returned (some (.int (Int32.ofInt x))) = .returned (some (.int r)) ∧ r = Int32.ofInt x ∧ Beh D (va_A ws s.heap.size) ad g.1.length [mI x] g' u t) ∧ va_F (va_A ws s.heap.size) s t from ⟨⟨_, ad', rfl, rfl, tys', ws', hag, hs', hm', hw', by rw [ht]; exact hP', hD', va_K.moved hW.alike hK'⟩, hS'.F ht⟩)) hS'.2.2 (hdc pc hpc)
    · exact W.lret (v := Int64.ofInt x) hx hb (hrt.trans hrt2) (fun t ht hW => (show (∃ (r : Int64) (u : Nat → Nat), Outcome.returned (some (.long (Int64.ofInt x))) = .returned (some (.long r)) ∧ r = Int64.ofInt x ∧ Beh D (va_A ws s.heap.size) ad g.1.length [mL x] g' u t) ∧ va_F (va_A ws s.heap.size) s t from ⟨⟨_, ad', rfl, rfl, tys', ws', hag, hs', hm', hw', by rw [ht]; exact hP', hD', va_K.moved hW.alike hK'⟩, hS'.F ht⟩)) hS'.2.2 (hdc pc hpc)
    · exact W.aret (v := .ref (ad' a)) (rt := .object C) hx hb (hrt.trans hrt2) (Or.inl ⟨_, rfl⟩) (Or.inr ⟨_, rfl⟩) (fun t ht hW => (show (∃ (u : Nat → Nat) (ra : Nat), Outcome.returned (some (.ref (ad' a))) = .returned (some (.ref ra)) ∧ True ∧ ra = u a ∧ Beh D (va_A ws s.heap.size) ad g.1.length [mR a] g' u t) ∧ va_F (va_A ws s.heap.size) s t from ⟨⟨ad', _, rfl, trivial, rfl, tys', ws', hag, hs', hm', hw', by rw [ht]; exact hP', hD', va_K.moved hW.alike hK'⟩, hS'.F ht⟩)) hS'.2.2 (hdc pc hpc))
  exact G ws s.heap [] la 0 (pc_0 hid) mPad_len (mPad_ok (mEntry_ok hca)) (fun v hv => by cases hv) hm hw hP hD va_S.rf hl
