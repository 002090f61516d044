/-! CONTRACTS: what the small machine comes to, a method of the real machine comes to -/
abbrev rmU (k mc ms : Nat) : Room := { frames := k, cells := mc, slots := ms, locals := 128 * k }
def wsM (id : Nat) : List Cond := .code (mtY id) (mtB id) (PP id).2 (mtR id) :: lw_g
theorem wsM_good {id : Nat} (h : id < 357) : GoodIn lw_g (wsM id) := wJ_good (mt_facts h).1
/-- how many slots the cells of a shape have -/
def slo : mSh → Nat
  | [] => 0
  | .inl ci :: S => ((nth FT ci).getD []).length + slo S
  | .inr (_, n) :: S => n + slo S
theorem slo_app : ∀ {S T : mSh}, slo (S ++ T) = slo S + slo T
  | [], T => by simp [slo]
  | .inl ci :: S, T => by
    rw [List.cons_append, slo, slo, slo_app]
    omega
  | .inr (_, n) :: S, T => by
    rw [List.cons_append, slo, slo, slo_app]
    omega
theorem slo_rep {n k : Nat} : slo (List.replicate n (.inr (1, k))) = n * k := by
  induction n with
  | zero => simp [slo]
  | succ n ih =>
    rw [List.replicate_succ, slo, ih, Nat.succ_mul]
    omega
theorem mTake_spec : ∀ {n : Nat} {acc st args rest : List mv}, mTake n acc st = some (args, rest) → ∃ t, t.length = n ∧ st = t ++ rest ∧ args = t.reverse ++ acc
  | 0, acc, st, args, rest, h => by
    cases h
    exact ⟨[], rfl, rfl, rfl⟩
  | n + 1, acc, [], args, rest, h => by cases h
  | n + 1, acc, v :: st, args, rest, h => by
    obtain ⟨t, h1, h2, h3⟩ := mTake_spec (n := n) (acc := v :: acc) (st := st) h
    refine ⟨v :: t, by simp [h1], by rw [h2]; rfl, ?_⟩
    rw [h3]
    simp
theorem mPad_len : ∀ {n : Nat} {l : List mv}, (mPad n l).length = n
  | 0, _ => rfl
  | n + 1, [] => by rw [mPad, List.length_cons, mPad_len]
  | n + 1, v :: r => by rw [mPad, List.length_cons, mPad_len]
theorem mPad_ok {k : Nat} : ∀ {n : Nat} {l : List mv}, (∀ v ∈ l, vOk k v) → ∀ v ∈ mPad n l, vOk k v
  | 0, _, _, v, h => by cases h
  | n + 1, [], h, v, hv => by
    rw [mPad] at hv
    rcases List.mem_cons.mp hv with rfl | hv
    · trivial
    · exact mPad_ok h v hv
  | n + 1, u :: r, h, v, hv => by
    rw [mPad] at hv
    rcases List.mem_cons.mp hv with rfl | hv
    · exact h _ List.mem_cons_self
    · exact mPad_ok (fun w hw => h w (List.mem_cons_of_mem _ hw)) v hv
theorem mEntry_ok {k : Nat} : ∀ {l : List mv}, (∀ v ∈ l, vOk k v) → ∀ v ∈ mEntry l, vOk k v
  | [], _, v, h => by cases h
  | .inr (.inl x) :: r, h, v, hv => by
    rw [mEntry] at hv
    rcases List.mem_cons.mp hv with rfl | hv
    · exact h _ List.mem_cons_self
    · rcases List.mem_cons.mp hv with rfl | hv
      · trivial
      · exact mEntry_ok (fun w hw => h w (List.mem_cons_of_mem _ hw)) v hv
  | .inl x :: r, h, v, hv => by
    rw [mEntry] at hv
    · rcases List.mem_cons.mp hv with rfl | hv
      · exact h _ List.mem_cons_self
      · exact mEntry_ok (fun w hw => h w (List.mem_cons_of_mem _ hw)) v hv
    · intro x hx; cases hx
  | .inr (.inr x) :: r, h, v, hv => by
    rw [mEntry] at hv
    · rcases List.mem_cons.mp hv with rfl | hv
      · exact h _ List.mem_cons_self
      · exact mEntry_ok (fun w hw => h w (List.mem_cons_of_mem _ hw)) v hv
    · intro x hx; cases hx
theorem mPad_nth : ∀ {n : Nat} {l : List mv} {k : Nat} {v : mv}, nth (mPad n l) k = some v → v ≠ mC 0 → nth l k = some v
  | 0, _, k, v, h, _ => by cases k <;> cases h
  | n + 1, [], 0, v, h, h0 => by cases h; exact absurd rfl h0
  | n + 1, [], k + 1, v, h, h0 => by
    have := mPad_nth (n := n) (l := []) (k := k) h h0
    cases k <;> cases this
  | n + 1, u :: r, 0, v, h, h0 => h
  | n + 1, u :: r, k + 1, v, h, h0 => mPad_nth (n := n) (l := r) (k := k) h h0
theorem entry_args {ad aC : Nat → Nat} : ∀ {l : List mv} {i k : Nat} {v : mv}, nth (mEntry l) k = some v → v ≠ mC 0 → (i + k, rV ad aC v) ∈ lv_args i (l.map (rV ad aC))
  | [], i, k, v, h, _ => by cases k <;> cases h
  | .inr (.inl x) :: r, i, k, v, h, h0 => by
    show _ ∈ (i, Value.long (Int64.ofInt x)) :: lv_args (i + 2) (r.map (rV ad aC))
    rw [mEntry] at h
    match k with
    | 0 => cases h; exact List.mem_cons_self
    | 1 => cases h; exact absurd rfl h0
    | k + 2 =>
      have := entry_args (ad := ad) (aC := aC) (l := r) (i := i + 2) (k := k) h h0
      rw [show i + 2 + k = i + (k + 2) by omega] at this
      exact List.mem_cons_of_mem _ this
  | .inl x :: r, i, k, v, h, h0 => by
    show _ ∈ (i, Value.int (Int32.ofInt x)) :: lv_args (i + 1) (r.map (rV ad aC))
    rw [mEntry] at h
    · match k with
      | 0 => cases h; exact List.mem_cons_self
      | k + 1 =>
        have := entry_args (ad := ad) (aC := aC) (l := r) (i := i + 1) (k := k) h h0
        rw [show i + 1 + k = i + (k + 1) by omega] at this
        exact List.mem_cons_of_mem _ this
    · intro x hx; cases hx
  | .inr (.inr (.inl x)) :: r, i, k, v, h, h0 => by
    show _ ∈ (i, Value.ref (ad x)) :: lv_args (i + 1) (r.map (rV ad aC))
    rw [mEntry] at h
    · match k with
      | 0 => cases h; exact List.mem_cons_self
      | k + 1 =>
        have := entry_args (ad := ad) (aC := aC) (l := r) (i := i + 1) (k := k) h h0
        rw [show i + 1 + k = i + (k + 1) by omega] at this
        exact List.mem_cons_of_mem _ this
    · intro x hx; cases hx
  | .inr (.inr (.inr x)) :: r, i, k, v, h, h0 => by
    show _ ∈ (i, Value.ref (aC x)) :: lv_args (i + 1) (r.map (rV ad aC))
    rw [mEntry] at h
    · match k with
      | 0 => cases h; exact List.mem_cons_self
      | k + 1 =>
        have := entry_args (ad := ad) (aC := aC) (l := r) (i := i + 1) (k := k) h h0
        rw [show i + 1 + k = i + (k + 1) by omega] at this
        exact List.mem_cons_of_mem _ this
    · intro x hx; cases hx
theorem asc_entry {ad aC : Nat → Nat} {la : Array Slot} {nL : Nat} {l : List mv} (h : lv_has la nL (lv_args 0 (l.map (rV ad aC)))) : lv_has la nL (asc ad aC 0 (mPad nL (mEntry l))) := by
  refine ⟨h.1, h.2.1, fun q hq => ?_⟩
  obtain ⟨k, v, h1, h2, rfl⟩ := mem_asc.mp hq
  exact h.2.2 _ (entry_args (mPad_nth h1 h2) h2)
theorem lg_len {ad aC : Nat → Nat} : ∀ {l : List mv}, (lg_sl (l.map (rV ad aC))).length = wds l
  | [] => rfl
  | .inl _ :: r => by
    have := lg_len (ad := ad) (aC := aC) (l := r)
    unfold lg_sl at this ⊢
    rw [List.map_cons, List.flatMap_cons, List.length_append, this]
    exact Nat.add_comm 1 (wds r)
  | .inr (.inl _) :: r => by
    have := lg_len (ad := ad) (aC := aC) (l := r)
    unfold lg_sl at this ⊢
    rw [List.map_cons, List.flatMap_cons, List.length_append, this]
    exact Nat.add_comm 2 (wds r)
  | .inr (.inr (.inl _)) :: r => by
    have := lg_len (ad := ad) (aC := aC) (l := r)
    unfold lg_sl at this ⊢
    rw [List.map_cons, List.flatMap_cons, List.length_append, this]
    exact Nat.add_comm 1 (wds r)
  | .inr (.inr (.inr _)) :: r => by
    have := lg_len (ad := ad) (aC := aC) (l := r)
    unfold lg_sl at this ⊢
    rw [List.map_cons, List.flatMap_cons, List.length_append, this]
    exact Nat.add_comm 1 (wds r)
/-- the world behind a method -/
def Beh (D : va_G) (A1 : Nat → Prop) (ad : Nat → Nat) (n0 : Nat) (v : List mv) (g : mH) (ad' : Nat → Nat) (t : State) : Prop :=
  ∃ tys ws, (∀ a, a < n0 → ad' a = ad a) ∧ (∀ x ∈ v, vOk g.1.length x) ∧ mOk g.1 g.2.2 ∧ Wld tys ws ad' g.1 g.2.1 g.2.2 ∧ va_P D vwCl ws t.heap ∧ va_D A1 ws ∧ va_K D vwCl tys t
def PcM (D : va_G) (ct : Nat → List Int) (aC : Nat → Nat) (tys : List (ClassId × FieldType)) (ws : va_W) (ad : Nat → Nat) (args : List mv) (sz : Nat) : Array Value → State → Prop :=
  va_Pc (args.map (rV ad aC)) (fun U => U.heap.size = sz ∧ va_P D vwCl ws U.heap ∧ va_D (fun _ => True) ws ∧ va_K D vwCl tys U ∧ Amb ct aC (va_A ws sz) U U.heap)
def QcM (D : va_G) (A1 : Nat → Prop) (ad : Nat → Nat) (n0 : Nat) (res : List mv × mH) : Array Value → State → Outcome → State → Prop := match res with
  | ([], g) => va_Qv (fun _ : Nat → Nat => True) (fun ad' t => Beh D A1 ad n0 [] g ad' t) A1
  | ([.inl x], g) => va_Qi (fun r (_ : Nat → Nat) => r = Int32.ofInt x) (fun ad' t => Beh D A1 ad n0 [mI x] g ad' t) A1
  | ([.inr (.inl x)], g) => va_Ql (fun r (_ : Nat → Nat) => r = Int64.ofInt x) (fun ad' t => Beh D A1 ad n0 [mL x] g ad' t) A1
  | ([.inr (.inr (.inl a))], g) => va_Qr (fun _ : Nat → Nat => True) (fun ad' ra t => ra = ad' a ∧ Beh D A1 ad n0 [mR a] g ad' t) A1
  | _ => fun _ _ _ _ => False
def MetM (l : Launch) (D : va_G) (ct : Nat → List Int) (aC : Nat → Nat) (d id : Nat) (args : List mv) (g : mH) (res : List mv × mH) : Prop :=
  ∀ (tys : List (ClassId × FieldType)) (ws : va_W) (ad : Nat → Nat) (sz : Nat), Wld tys ws ad g.1 g.2.1 g.2.2 → (∀ v ∈ args, vOk g.1.length v) → wds args ≤ (PP id).2 → mOk g.1 g.2.2 → rOk g.1 g.2.1 →
    Met l (mtY id) (wsM id) (rmU (40 * d + mtK id + 5) (res.2.1.length - g.1.length) (slo res.2.1 - slo g.1)) (PcM D ct aC tys ws ad args sz) (QcM D (va_A ws sz) ad g.1.length res) (res.2.1.length - g.1.length) (slo res.2.1 - slo g.1) (va_A ws sz)
theorem PcM_blind {D : va_G} {ct : Nat → List Int} {aC : Nat → Nat} {tys : List (ClassId × FieldType)} {ws : va_W} {ad : Nat → Nat} {args : List mv} {sz : Nat} : FrameBlind (PcM D ct aC tys ws ad args sz) := by
  intro a U g mk q
  obtain ⟨q0, q1, q2, q3, q4, q5⟩ := q
  have hal : U.vm.Alike (U.calling g mk a).vm := Vm.Alike.refl U.vm
  exact ⟨q0, q1, q2, q3, va_K.moved hal q4, Amb.same (U := U.calling g mk a) rfl q5⟩
theorem cnm_RN : ∀ k, k < 13 → cnm k = RN k := by decide +kernel
theorem vwCl_at {ci : Nat} (h : ci < 13) : ∃ q, vwCl[ci]? = some q ∧ q.1 = cnm ci := by
  have hl : ci < vwCl.length := h
  refine ⟨vwCl[ci], List.getElem?_eq_getElem hl, ?_⟩
  unfold cnm
  rw [nth_get, List.getElem?_eq_getElem hl]
theorem room_arith {P X L : Nat} (h : P ≤ 40) (h2 : 128 * (X + 1) ≤ L) : 8 + (P + 11) + 128 * X ≤ L := by omega
section
variable {p : Program} {l : Launch} {e : Env} {Rm : Room} {s : State} {m : MethodId} {args : Array Value} {below : List Frame} {meth : Method} {c : Code} {cc : ByteArray} {D : va_G} {A : Nat → Prop} {tys : List (ClassId × FieldType)} {ad aC : Nat → Nat} {nL cells slots : Nat} {Q : State → Prop} {pcs ixs : List Nat} {oc rk : Nat} {ct : Nat → List Int}
/-- a call, of whichever kind: the real machine goes -/
theorem run_any (hx : p.tables.exec = Jvm.exec) (hb : c.code = cc) (hts : ∀ w ∈ lw_g, w.before args s = true) (hown : s.vm.findClass (RN oc) = some m.cls) (hml : c.maxLocals = nL) (hA : Amb ct aC A s s.heap) (hA0 : ∀ q, s.heap.size ≤ q → A q) {d d' id t j nx na fl kd w rc : Nat} {cargs rest : List mv} {g : mH} {res : List mv × mH} (hok : okI id cc pcs ixs oc (mtK id) nL j (.invokestatic t, nx, [na, fl, kd, w, rc]) = true) (hf : 40 * d + mtK id + 5 ≤ Rm.frames) (hlo : 128 * (40 * d + mtK id + 5) ≤ Rm.locals) (hd : (fl = 0 ∧ d' = d) ∨ (0 < fl ∧ d = d' + 1)) (hM : MetM l D ct aC d' t cargs g res) (hr : rOk g.1 g.2.1) (hlen : cargs.length = na) (hwd : wds cargs ≤ w) (hrc : rcv g.1 rc cargs = true) (hw8 : wds rest ≤ 8)
    (hcells : cells + (res.2.1.length - g.1.length) ≤ Rm.cells) (hslots : slots + (slo res.2.1 - slo g.1) ≤ Rm.slots) {ws : va_W} {H : Heap} {locs : List Loc} {la : Array Slot} {pc : Nat} (hpc : nth pcs j = some pc) (hca : ∀ v ∈ cargs, vOk g.1.length v) (hm : mOk g.1 g.2.2) (hw : Wld tys ws ad g.1 g.2.1 g.2.2) (hP : va_P D vwCl ws H) (hD : va_D A ws) (hS : va_S A s.heap H locs) (hK : va_K D vwCl tys s) (hla : la.size = nL) :
    nth pcs nx = some (pc + 3) ∧ va_Run p l e Rm s m args below meth c H locs cells slots (res.2.1.length - g.1.length) (slo res.2.1 - slo g.1) (F0 m pc la ((cargs.map (rV ad aC)).reverse ++ rest.map (rV ad aC))) (rest.map (rV ad aC)) (QcM D (va_A ws H.size) ad g.1.length res (cargs.map (rV ad aC)).toArray) (va_A ws H.size) := by
  unfold okI at hok
  dsimp only at hok
  simp only [Bool.and_eq_true, Bool.or_eq_true, decide_eq_true_eq] at hok
  obtain ⟨⟨⟨k1, k2⟩, -⟩, k4⟩ := hok
  have k1 : w ≤ (PP t).2 := Nat.le_of_ble_eq_true k1
  have k2 : 0 < fl ∨ mtK t < mtK id := by
    rcases k2 with z | z
    · exact Or.inl (Nat.le_of_ble_eq_true z)
    · exact Or.inr (Nat.le_of_ble_eq_true z)
  have ht : t < 357 := by
    have key : ∀ x : Nat × Nat × Nat, x ∈ VLl ++ (SLl ++ NSl) ++ (ILl ++ NIl) → x.2.2 < 357 := fun x hx => by
      have q := List.all_eq_true.mp LNl_q x hx
      rw [Nat.blt_eq] at q
      exact q
    rcases k4 with ((((z | z) | z) | z) | z) | z
    · exact key _ (List.mem_append_left _ (List.mem_append_left _ (mem_v z.1.1.1)))
    · exact key _ (List.mem_append_left _ (List.mem_append_right _ (List.mem_append_left _ (mem_elem z.1.1))))
    · exact key _ (List.mem_append_right _ (List.mem_append_left _ (mem_elem z.1.1.1)))
    · exact absurd z.1.1 (by rw [NVl_q]; simp)
    · exact key _ (List.mem_append_left _ (List.mem_append_right _ (List.mem_append_right _ (mem_elem z.1.1))))
    · exact key _ (List.mem_append_right _ (List.mem_append_right _ (mem_elem z.1.1.1)))
  obtain ⟨f1, f2, f3, f4, f5, f6, f7, f8⟩ := mt_facts ht
  have hini := hts _ f8
  have hG := wsM_good ht
  have hMet := hM tys ws ad H.size hw hca (Nat.le_trans hwd k1) hm hr
  have hAA : ∀ q, va_A ws H.size q → A q := fun q h => by
    rcases h with ⟨k, e9, h⟩ | h
    · exact hD.2 k _ h
    · exact hA0 q (Nat.le_trans hS.1 h)
  have hPc : ∀ U : State, U.heap = H → s.WarmedH U.vm → PcM D ct aC tys ws ad cargs H.size (cargs.map (rV ad aC)).toArray U := fun U hU hW =>
    ⟨rfl, by rw [hU], by rw [hU]; exact hP, hD.weaken (fun _ _ _ _ => trivial), va_K.moved hW.alike hK, by rw [hU]; exact ((hA.kept (fun a q1 q2 => hS.2.1 a q1 q2)).narrow hAA).warm hW⟩
  have hfr : (rmU (40 * d' + mtK t + 5) (res.2.1.length - g.1.length) (slo res.2.1 - slo g.1)).frames + 1 ≤ Rm.frames := by
    show 40 * d' + mtK t + 5 + 1 ≤ Rm.frames
    rcases hd with ⟨z1, z2⟩ | ⟨z1, z2⟩ <;> omega
  have hlc : 8 + ((PP t).2 + 11) + (rmU (40 * d' + mtK t + 5) (res.2.1.length - g.1.length) (slo res.2.1 - slo g.1)).locals ≤ Rm.locals := by
    have h1 : 40 * d' + mtK t + 5 + 1 ≤ 40 * d + mtK id + 5 := by rcases hd with ⟨z1, z2⟩ | ⟨z1, z2⟩ <;> omega
    exact room_arith f5 (Nat.le_trans (Nat.mul_le_mul_left 128 h1) hlo)
  have hrest : ((rest.map (rV ad aC)).map fun v => v.category).sum ≤ 8 := by rw [wds_ok]; exact hw8
  have hn1 : ∀ {n : Nat}, Nat.beq na (mtN t + 1) = true → n + 1 = na → (parseMethodDescriptor (mtY t).desc).map (fun dd => dd.parameters.length) = some n := by
    intro n z1 z2
    rw [PN_all ht]
    have := Nat.eq_of_beq_eq_true z1
    congr 1
    omega
  have hn0 : Nat.beq na (mtN t) = true → (parseMethodDescriptor (mtY t).desc).map (fun dd => dd.parameters.length) = some na := by
    intro z1
    rw [PN_all ht, Nat.eq_of_beq_eq_true z1]
  obtain ⟨hNl, hNS⟩ : (∀ q ∈ NSl, va_Nw (.methodLinkNest (RN q.1) q.2.1 (mtY q.2.2) "ToastMap") s) ∧ ∀ q ∈ NIl, va_Nw (.methodLinkNest (RN q.1) q.2.1 (mtY q.2.2) "ToastMap") s := ⟨fun q hq => hA.2.2.2.1 q (List.mem_append_left _ hq), fun q hq => hA.2.2.2.1 q (List.mem_append_right _ hq)⟩
  rcases k4 with ((((z | z) | z) | z) | z) | z
  · -- a method of an object
    obtain ⟨⟨⟨z1, z2⟩, z3⟩, z4⟩ := z
    have z2 := Nat.eq_of_beq_eq_true z2
    have hv := List.all_eq_true.mp VLl_q _ (mem_v z1)
    rw [Bool.and_eq_true] at hv
    rw [z2] at hrc
    obtain ⟨a, As, rfl⟩ : ∃ a As, cargs = mR a :: As := by
      unfold rcv at hrc
      split at hrc
      · next q => cases q
      · exact ⟨_, _, rfl⟩
      · cases hrc
    have ho : nth g.1 a = some (.inl (mtO t)) := mObj_spec hrc
    obtain ⟨pc9, e1, hdg, e2⟩ := okD_spec z3
    cases hpc.symm.trans e1
    obtain ⟨f, hf9, hwsa⟩ := hw.2.1 a _ ho
    have hci : mtO t < 13 := nth_lt hf9
    obtain ⟨q9, hq9, hq8⟩ := vwCl_at hci
    have hcl : (mtY t).cls = q9.1 := by rw [hq8, cnm_RN _ hci, f7]
    refine ⟨e2, ?_⟩
    have hst : ((mR a :: As).map (rV ad aC)).reverse ++ rest.map (rV ad aC) = (As.map (rV ad aC)).reverse ++ .ref (ad a) :: rest.map (rV ad aC) := by
      rw [List.map_cons, List.reverse_cons, List.append_assoc]
      rfl
    rw [hst]
    exact va_runV (As := As.map (rV ad aC)) (rest := rest.map (rV ad aC)) (C := (mtY t).cls) ⟨hx, hb, hml, hown, hts⟩ hMet ⟨callB_of As.length hts hG rfl rfl rfl hini (hts _ (VLl_ok (mem_v z1))) ⟨f3, f4, hn1 z4 (by rw [← hlen]; rfl)⟩ ⟨hfr, hlc⟩, hts _ (IMl_ok (mem_elem hv.2)), hts _ (SEl_ok (mem_elem hv.1))⟩ ⟨PcM_blind, by rw [hcl]; exact va_recv hK hP hq9 hwsa, hPc⟩ rfl (by rw [List.length_map]) hla rfl (lv_room hrest) hdg ⟨hcells, hslots⟩
  · obtain ⟨⟨z1, z3⟩, z4⟩ := z
    have hv := List.all_eq_true.mp SLl_q _ (List.mem_append_left _ (mem_elem z1))
    obtain ⟨pc9, e1, hdg, e2⟩ := okD_spec z3
    cases hpc.symm.trans e1
    refine ⟨e2, ?_⟩
    exact va_runS (As := cargs.map (rV ad aC)) (rest := rest.map (rV ad aC)) ⟨hx, hb, hml, hown, hts⟩ hMet ⟨callB_of na hts hG rfl rfl rfl hini (hts _ (SLl_ok (mem_elem z1))) ⟨f3, f4, hn0 z4⟩ ⟨hfr, hlc⟩, hts _ (SMl_ok (mem_elem hv))⟩ ⟨PcM_blind, hPc⟩ rfl (by rw [List.length_map, hlen]) hla rfl (lv_room hrest) hdg ⟨hcells, hslots⟩
  · obtain ⟨⟨⟨z1, z2⟩, z3⟩, z4⟩ := z
    have z2 : 0 < rc := Nat.le_of_ble_eq_true z2
    have hv := List.all_eq_true.mp ILl_q _ (List.mem_append_left _ (mem_elem z1))
    simp only [Bool.and_eq_true, decide_eq_true_eq] at hv
    obtain ⟨a, As, rfl⟩ : ∃ a As, cargs = mR a :: As := by
      unfold rcv at hrc
      split at hrc
      · next q => omega
      · exact ⟨_, _, rfl⟩
      · cases hrc
    obtain ⟨pc9, e1, hdg, e2⟩ := okD_spec z3
    cases hpc.symm.trans e1
    refine ⟨e2, ?_⟩
    have hst : ((mR a :: As).map (rV ad aC)).reverse ++ rest.map (rV ad aC) = (As.map (rV ad aC)).reverse ++ .ref (ad a) :: rest.map (rV ad aC) := by
      rw [List.map_cons, List.reverse_cons, List.append_assoc]
      rfl
    rw [hst]
    have hw9 : wsM t = Cond.code (mtY t) (mtB t) (PP t).2 none :: lw_g := by unfold wsM; rw [hv.2]
    exact va_runI (As := As.map (rV ad aC)) (rest := rest.map (rV ad aC)) ⟨hx, hb, hml, hown, hts⟩ hMet ⟨callB_of As.length hts hG hw9 rfl rfl hini (hts _ (ILl_ok (mem_elem z1))) ⟨f3, f4, hn1 z4 (by rw [← hlen]; rfl)⟩ ⟨hfr, hlc⟩, hv.1.2, hts _ (IMl_ok (mem_elem hv.1.1))⟩ ⟨PcM_blind, hPc⟩ rfl (by rw [List.length_map]) hla rfl (lv_room hrest) hdg ⟨hcells, hslots⟩
  · exact absurd z.1.1 (by rw [NVl_q]; simp)
  · obtain ⟨⟨z1, z3⟩, z4⟩ := z
    have hv := List.all_eq_true.mp SLl_q _ (List.mem_append_right _ (mem_elem z1))
    obtain ⟨pc9, e1, hdg, e2⟩ := okD_spec z3
    cases hpc.symm.trans e1
    refine ⟨e2, ?_⟩
    exact va_runSN (As := cargs.map (rV ad aC)) (rest := rest.map (rV ad aC)) ⟨hx, hb, hml, hown, hts⟩ hMet ⟨va_cnB na hts hG rfl rfl rfl (hNl _ (mem_elem z1)) hini ⟨f3, f4, hn0 z4⟩ ⟨hfr, hlc⟩, hts _ (SMl_ok (mem_elem hv)), trivial⟩ ⟨PcM_blind, hPc⟩ rfl (by rw [List.length_map, hlen]) hla rfl (lv_room hrest) hdg ⟨hcells, hslots⟩
  · obtain ⟨⟨⟨z1, z2⟩, z3⟩, z4⟩ := z
    have z2 : 0 < rc := Nat.le_of_ble_eq_true z2
    have hv := List.all_eq_true.mp ILl_q _ (List.mem_append_right _ (mem_elem z1))
    simp only [Bool.and_eq_true, decide_eq_true_eq] at hv
    obtain ⟨a, As, rfl⟩ : ∃ a As, cargs = mR a :: As := by
      unfold rcv at hrc
      split at hrc
      · next q => omega
      · exact ⟨_, _, rfl⟩
      · cases hrc
    obtain ⟨pc9, e1, hdg, e2⟩ := okD_spec z3
    cases hpc.symm.trans e1
    refine ⟨e2, ?_⟩
    have hst : ((mR a :: As).map (rV ad aC)).reverse ++ rest.map (rV ad aC) = (As.map (rV ad aC)).reverse ++ .ref (ad a) :: rest.map (rV ad aC) := by
      rw [List.map_cons, List.reverse_cons, List.append_assoc]
      rfl
    rw [hst]
    have hw9 : wsM t = Cond.code (mtY t) (mtB t) (PP t).2 none :: lw_g := by unfold wsM; rw [hv.2]
    exact va_runIN (As := As.map (rV ad aC)) (rest := rest.map (rV ad aC)) ⟨hx, hb, hml, hown, hts⟩ hMet ⟨va_cnB As.length hts hG hw9 rfl rfl (hNS _ (mem_elem z1)) hini ⟨f3, f4, hn1 z4 (by rw [← hlen]; rfl)⟩ ⟨hfr, hlc⟩, hv.1.2, hts _ (IMl_ok (mem_elem hv.1.1))⟩ ⟨PcM_blind, hPc⟩ rfl (by rw [List.length_map]) hla rfl (lv_room hrest) hdg ⟨hcells, hslots⟩
end
