theorem sysN : Cond.native arraycopyName ∈ lw_g := mem_g (by decide +kernel) rfl
theorem sysS : Cond.static arraycopyName ∈ lw_g := mem_g (by decide +kernel) rfl
theorem sysI : Cond.initialized "java/lang/System" ∈ lw_g := mem_g (by decide +kernel) rfl
/-! SIM 5: switches, rows of references, copies, texts; one small instruction as a whole -/
theorem pSw_spec {ρ : Type} {x : Int} {N : Nat → Option ρ} {d : Nat} {r : ρ} : ∀ {ts : List Nat} {lo : Int}, pSw x N d lo ts = some r → (∃ q t, nth ts q = some t ∧ x = lo + (q : Int) ∧ N t = some r) ∨ ((x < lo ∨ lo + (ts.length : Int) ≤ x) ∧ N d = some r)
  | [], lo, h => Or.inr ⟨by simp only [List.length_nil]; omega, h⟩
  | t :: ts, lo, h => by
    unfold pSw at h
    split at h
    · next e => exact Or.inl ⟨0, t, rfl, by omega, h⟩
    · next e =>
      rcases pSw_spec h with ⟨q, t', h1, h2, h3⟩ | ⟨h1, h2⟩
      · exact Or.inl ⟨q + 1, t', h1, by omega, h3⟩
      · exact Or.inr ⟨by simp only [List.length_cons]; omega, h2⟩
theorem all_nth {l : List Nat} {f : Nat → Bool} (h : l.all f = true) {q t : Nat} (ht : nth l q = some t) : f t = true := List.all_eq_true.mp h _ (nth_mem ht)
theorem k56 {k : Nat} (h : (Nat.ble 4 k).and (Nat.ble k 5) = true) : k + 1 = 5 ∨ k + 1 = 6 := by
  rw [Bool.and_eq_true] at h
  have h1 := Nat.le_of_ble_eq_true h.1
  have h2 := Nat.le_of_ble_eq_true h.2
  omega
section
variable {p : Program} {l : Launch} {e : Env} {Rm : Room} {s : State} {m : MethodId} {args : Array Value} {below : List Frame} {meth : Method} {c : Code} {cc : ByteArray} {D : va_G} {A : Nat → Prop} {tys : List (ClassId × FieldType)} {ad aC : Nat → Nat} {nL cells slots : Nat} {Q : State → Prop} {pcs : List Nat} {S : mSh} {r : mRf} {j nx : Nat} {ls st : List mv} {h : mM} {id oc rk maxL : Nat} {ixs lst : List Nat} {ct : Nat → List Int} {cl : Nat → Nat → List mv → mM → Option (List mv × mM)} {ρ : Type} {ret : List mv → mM → Option ρ} {N : Nat → List mv → List mv → mM → Option ρ} {res : ρ}
theorem go_table (hx : p.tables.exec = Jvm.exec) (hb : c.code = cc) {x lo : Int} {d len : Nat} {ts : List Nat} (hlo : inI lo) (hhi : inI (lo + (ts.length : Int))) (hhd : has pcs d = true) (hht : ts.all (has pcs) = true) (hd : Dc cc pcs j (.tableswitch (offT pcs j d) lo (lo + (ts.length : Int) - 1) (ts.map (offT pcs j)).toArray) len nx) (kd : (x < lo ∨ lo + (ts.length : Int) ≤ x) → Go (fun H locs pc la sv => W p l e Rm s m args below meth c H locs cells slots Q (F0 m pc la sv)) D A tys ad aC nL s pcs S r (d) (ls) (st) (h)) (kt : ∀ q t, nth ts q = some t → x = lo + (q : Int) → Go (fun H locs pc la sv => W p l e Rm s m args below meth c H locs cells slots Q (F0 m pc la sv)) D A tys ad aC nL s pcs S r (t) (ls) (st) (h)) : Go (fun H locs pc la sv => W p l e Rm s m args below meth c H locs cells slots Q (F0 m pc la sv)) D A tys ad aC nL s pcs S r (j) (ls) (mI x :: st) (h) := by
  intro ws H locs la pc hpc hL hl hs hm hw hP hD hS hv
  obtain ⟨pc0, h1, hdg, h2⟩ := hd
  cases hpc.symm.trans h1
  have hs9 : ∀ v ∈ st, vOk S.length v := fun v9 hv9 => hs _ (List.mem_cons_of_mem _ hv9)
  have hx9 : inI x := hs _ List.mem_cons_self
  by_cases hin : x < lo ∨ lo + (ts.length : Int) ≤ x
  · refine lv_tableOut hx hb hdg ?_ (offT_spec _ hpc) (kd hin ws H locs la _ (has_spec hhd) hL hl hs9 hm hw hP hD hS hv)
    rw [i32_of hx9]
    omega
  · obtain ⟨q, hq⟩ : ∃ q : Nat, x = lo + (q : Int) := ⟨(x - lo).toNat, by omega⟩
    have hql : q < ts.length := by omega
    obtain ⟨t, ht⟩ : ∃ t, nth ts q = some t := ⟨ts[q], by rw [nth_get]; exact List.getElem?_eq_getElem hql⟩
    refine lv_tableIn hx hb hdg (off := offT pcs j t) (by rw [i32_of hx9]; omega) (by rw [i32_of hx9]; omega) ?_ (offT_spec _ hpc) (kt q t ht hq ws H locs la _ (has_spec (all_nth hht ht)) hL hl hs9 hm hw hP hD hS hv)
    rw [i32_of hx9, show (x - lo).toNat = q by omega]
    rw [List.getElem?_toArray, List.getElem?_map, ← nth_get, ht]
    rfl
theorem s1_table (hx : p.tables.exec = Jvm.exec) (hb : c.code = cc) (hts : ∀ w ∈ lw_g, w.before args s = true) (hown : s.vm.findClass (RN oc) = some m.cls) (hml : c.maxLocals = nL) (hK : va_K D vwCl tys s) (hR : 1 ≤ Rm.frames ∧ 100 ≤ Rm.locals ∧ cells ≤ Rm.cells ∧ slots ≤ Rm.slots) (hA : Amb ct aC A s s.heap) (hct : ctOk ct) {lo d0 h0 : Int} {o0 : Array Int} (hN : ∀ j ls st h, N j ls st h = some res → Go (fun H locs pc la sv => W p l e Rm s m args below meth c H locs cells slots Q (F0 m pc la sv)) D A tys ad aC nL s pcs S r (j) (ls) (st) (h)) (hok : okI id cc pcs ixs oc rk maxL j (.tableswitch d0 lo h0 o0, nx, lst) = true) (H : ex1 S r ct cl ret N (.tableswitch d0 lo h0 o0, nx, lst) ls st h = some res) : Go (fun H locs pc la sv => W p l e Rm s m args below meth c H locs cells slots Q (F0 m pc la sv)) D A tys ad aC nL s pcs S r (j) (ls) (st) (h) := by
  unfold ex1 at H
  unfold okI at hok
  dsimp only at H hok
  split at H
  · next x rest d ts =>
    simp only [Bool.and_eq_true, decide_eq_true_eq] at hok
    obtain ⟨⟨⟨⟨h1, h2⟩, h3⟩, h4⟩, h5⟩ := hok
    refine go_table hx hb h3 h4 h1 h2 (okD_spec h5) (fun q => ?_) (fun q t ht hq => ?_)
    · rcases pSw_spec H with ⟨q', t', g1, g2, g3⟩ | ⟨g1, g2⟩
      · exfalso
        have := nth_lt g1
        omega
      · exact hN _ _ _ _ g2
    · rcases pSw_spec H with ⟨q', t', g1, g2, g3⟩ | ⟨g1, g2⟩
      · have e : q' = q := by omega
        subst e
        rw [ht] at g1
        cases g1
        exact hN _ _ _ _ g3
      · exfalso
        have := nth_lt ht
        omega
  · cases H
theorem go_lookup2 (hx : p.tables.exec = Jvm.exec) (hb : c.code = cc) {x : Int} {d k1 t1 k2 t2 len : Nat} (hk1 : k1 < k2) (hk2 : k2 < 1000) (h1d : has pcs d = true) (h1t : has pcs t1 = true) (h2t : has pcs t2 = true) (hd : Dc cc pcs j (.lookupswitch (offT pcs j d) #[((k1 : Int), offT pcs j t1), ((k2 : Int), offT pcs j t2)]) len nx) (kd : x ≠ (k1 : Int) → x ≠ (k2 : Int) → Go (fun H locs pc la sv => W p l e Rm s m args below meth c H locs cells slots Q (F0 m pc la sv)) D A tys ad aC nL s pcs S r (d) (ls) (st) (h)) (ka : x = (k1 : Int) → Go (fun H locs pc la sv => W p l e Rm s m args below meth c H locs cells slots Q (F0 m pc la sv)) D A tys ad aC nL s pcs S r (t1) (ls) (st) (h)) (kb : x ≠ (k1 : Int) → x = (k2 : Int) → Go (fun H locs pc la sv => W p l e Rm s m args below meth c H locs cells slots Q (F0 m pc la sv)) D A tys ad aC nL s pcs S r (t2) (ls) (st) (h)) : Go (fun H locs pc la sv => W p l e Rm s m args below meth c H locs cells slots Q (F0 m pc la sv)) D A tys ad aC nL s pcs S r (j) (ls) (mI x :: st) (h) := by
  intro ws H locs la pc hpc hL hl hs hm hw hP hD hS hv
  obtain ⟨pc0, h1, hdg, h2⟩ := hd
  cases hpc.symm.trans h1
  have hs9 : ∀ v ∈ st, vOk S.length v := fun v9 hv9 => hs _ (List.mem_cons_of_mem _ hv9)
  have hx9 : inI x := hs _ List.mem_cons_self
  have hp9 : (((#[((k1 : Int), offT pcs j t1), ((k2 : Int), offT pcs j t2)] : Array (Int × Int)).toList.zip ((#[((k1 : Int), offT pcs j t1), ((k2 : Int), offT pcs j t2)] : Array (Int × Int)).toList.drop 1)).all (fun (a, next) => a.1 < next.1)) = true := by
    simp
    omega
  by_cases e1 : x = (k1 : Int)
  · exact lv_lookup hx hb hdg hp9 (off := offT pcs j t1) (by rw [i32_of hx9]; simp [Op.lookupswitch.offset_cons, e1]) (offT_spec _ hpc) (ka e1 ws H locs la _ (has_spec h1t) hL hl hs9 hm hw hP hD hS hv)
  · by_cases e2 : x = (k2 : Int)
    · exact lv_lookup hx hb hdg hp9 (off := offT pcs j t2) (by rw [i32_of hx9]; simp only [Op.lookupswitch.offset_cons]; rw [if_neg (fun q => e1 q.symm), if_pos e2.symm]) (offT_spec _ hpc) (kb e1 e2 ws H locs la _ (has_spec h2t) hL hl hs9 hm hw hP hD hS hv)
    · exact lv_lookup hx hb hdg hp9 (off := offT pcs j d) (by rw [i32_of hx9]; simp only [Op.lookupswitch.offset_cons]; rw [if_neg (fun q => e1 q.symm), if_neg (fun q => e2 q.symm)]; rfl) (offT_spec _ hpc) (kd e1 e2 ws H locs la _ (has_spec h1d) hL hl hs9 hm hw hP hD hS hv)
theorem s1_lookup (hx : p.tables.exec = Jvm.exec) (hb : c.code = cc) (hts : ∀ w ∈ lw_g, w.before args s = true) (hown : s.vm.findClass (RN oc) = some m.cls) (hml : c.maxLocals = nL) (hK : va_K D vwCl tys s) (hR : 1 ≤ Rm.frames ∧ 100 ≤ Rm.locals ∧ cells ≤ Rm.cells ∧ slots ≤ Rm.slots) (hA : Amb ct aC A s s.heap) (hct : ctOk ct) {d0 : Int} {o0 : Array (Int × Int)} (hN : ∀ j ls st h, N j ls st h = some res → Go (fun H locs pc la sv => W p l e Rm s m args below meth c H locs cells slots Q (F0 m pc la sv)) D A tys ad aC nL s pcs S r (j) (ls) (st) (h)) (hok : okI id cc pcs ixs oc rk maxL j (.lookupswitch d0 o0, nx, lst) = true) (H : ex1 S r ct cl ret N (.lookupswitch d0 o0, nx, lst) ls st h = some res) : Go (fun H locs pc la sv => W p l e Rm s m args below meth c H locs cells slots Q (F0 m pc la sv)) D A tys ad aC nL s pcs S r (j) (ls) (st) (h) := by
  unfold ex1 at H
  unfold okI at hok
  dsimp only at H hok
  split at hok
  · next d k1 t1 k2 t2 =>
    split at H
    · next x rest d' ts' heq =>
      cases heq
      simp only [Bool.and_eq_true, Nat.blt_eq] at hok
      obtain ⟨⟨⟨⟨⟨h1, h2⟩, h3⟩, h4⟩, h5⟩, h6⟩ := hok
      simp only [pLk] at H
      exact go_lookup2 hx hb h4 h5 h1 h2 h3 (okD_spec h6) (fun q1 q2 => hN _ _ _ _ (by rw [if_neg q1, if_neg q2] at H; exact H)) (fun q1 => hN _ _ _ _ (by rw [if_pos q1] at H; exact H)) (fun q1 q2 => hN _ _ _ _ (by rw [if_neg q1, if_pos q2] at H; exact H))
    · cases H
  · cases hok
theorem go_aaloadJ (hx : p.tables.exec = Jvm.exec) (hb : c.code = cc) {x : Int} {a n b : Nat} (hK : va_K D vwCl tys s) (ho : nth S a = some (.inr (3, n))) (hb0 : rfAt r a x.toNat = some b) (g : inA x n) (hd : Dc cc pcs j .aaload 1 nx) (k : Go (fun H locs pc la sv => W p l e Rm s m args below meth c H locs cells slots Q (F0 m pc la sv)) D A tys ad aC nL s pcs S r (nx) (ls) (mR b :: st) (h)) : Go (fun H locs pc la sv => W p l e Rm s m args below meth c H locs cells slots Q (F0 m pc la sv)) D A tys ad aC nL s pcs S r (j) (ls) (mI x :: mR a :: st) (h) := by
  intro ws H locs la pc hpc hL hl hs hm hw hP hD hS hv
  obtain ⟨pc0, h1, hdg, h2⟩ := hd
  cases hpc.symm.trans h1
  obtain ⟨cA, t0, g1, g2, g3⟩ := hw.2.2.1 a _ _ ho
  obtain ⟨i1, i2⟩ := inA_in (hs _ List.mem_cons_self) g
  have k9 := k ws H locs la _ h2 hL hl (fun v9 hv9 => by rcases List.mem_cons.mp hv9 with rfl | hv9; exact (hw.2.2.2 a _ b hb0); exact hs _ (List.mem_cons_of_mem _ (List.mem_cons_of_mem _ hv9))) hm hw hP hD hS hv
  have hlt : (Int32.ofInt x).toNatClampNeg < n := Nat.not_le.mp fun q => i1 (Or.inr q)
  refine W.aald (v := .ref (ad b)) (ty := .array .long) hx hb (hP a _ g3) ((hK.2 t0 _ g1).1 n (fun j => va_rf ((rfAt r a j).map ad))) rfl (fun q => by cases q) (by show ¬ (_ ∨ (arrV _ _ _).slots.size ≤ _); rw [arrV_size]; exact i1) ?_ rfl rfl hdg k9
  show (arrV _ _ (fun j => va_rf ((rfAt r a j).map ad))).slots[_]? = _
  rw [arrV_read _ _ hlt, i2, hb0]
  rfl
theorem s1_aaload (hx : p.tables.exec = Jvm.exec) (hb : c.code = cc) (hts : ∀ w ∈ lw_g, w.before args s = true) (hown : s.vm.findClass (RN oc) = some m.cls) (hml : c.maxLocals = nL) (hK : va_K D vwCl tys s) (hR : 1 ≤ Rm.frames ∧ 100 ≤ Rm.locals ∧ cells ≤ Rm.cells ∧ slots ≤ Rm.slots) (hA : Amb ct aC A s s.heap) (hct : ctOk ct)  (hN : ∀ j ls st h, N j ls st h = some res → Go (fun H locs pc la sv => W p l e Rm s m args below meth c H locs cells slots Q (F0 m pc la sv)) D A tys ad aC nL s pcs S r (j) (ls) (st) (h)) (hok : okI id cc pcs ixs oc rk maxL j (.aaload, nx, lst) = true) (H : ex1 S r ct cl ret N (.aaload, nx, lst) ls st h = some res) : Go (fun H locs pc la sv => W p l e Rm s m args below meth c H locs cells slots Q (F0 m pc la sv)) D A tys ad aC nL s pcs S r (j) (ls) (st) (h) := by
  unfold ex1 at H
  unfold okI at hok
  dsimp only at H hok
  split at H
  · next x a rest ty =>
    simp only [Bool.and_eq_true, Nat.blt_eq] at hok
    obtain ⟨⟨h1, h2⟩, h3⟩ := hok
    split at H
    · next n hn =>
      split at H
      · next l hl =>
        split at H
        · next b hb9 =>
          split at H
          · next g =>
            have hb1 : rfAt r a x.toNat = some b := by unfold rfAt; rw [hl]; dsimp only; rw [hb9]
            by_cases e3 : ty = 3
            · subst e3
              exact go_aaloadJ hx hb hK (mArr_spec hn) hb1 g (okD_spec h1) (hN _ _ _ _ H)
            · have e4 : aty ty = .object (cnm (ty - 10)) := by
                unfold aty
                split <;> first | omega | rfl
              exact go_aaload hx hb hK e4 (by omega) (mArr_spec hn) hb1 g (okD_spec h1) (hN _ _ _ _ H)
          · cases H
        · cases H
      · cases H
    · cases H
  · cases H
theorem s1_arraylength (hx : p.tables.exec = Jvm.exec) (hb : c.code = cc) (hts : ∀ w ∈ lw_g, w.before args s = true) (hown : s.vm.findClass (RN oc) = some m.cls) (hml : c.maxLocals = nL) (hK : va_K D vwCl tys s) (hR : 1 ≤ Rm.frames ∧ 100 ≤ Rm.locals ∧ cells ≤ Rm.cells ∧ slots ≤ Rm.slots) (hA : Amb ct aC A s s.heap) (hct : ctOk ct) (hLen : ∀ {j nx i k0 : Nat} {ls st : List mv} {h : mM}, (k0 = 5 ∨ k0 = 6) → (oc, i, 1) ∈ CHl → wds st ≤ 8 → Dc cc pcs j (.invokevirtual i) 3 nx → Go (fun H locs pc la sv => W p l e Rm s m args below meth c H locs cells slots Q (F0 m pc la sv)) D A tys ad aC nL s pcs S r (nx) (ls) (mI ((ct k0).length : Int) :: st) (h) → Go (fun H locs pc la sv => W p l e Rm s m args below meth c H locs cells slots Q (F0 m pc la sv)) D A tys ad aC nL s pcs S r (j) (ls) (mC k0 :: st) (h)) (hChr : ∀ {j nx i k0 : Nat} {x : Int} {ls st : List mv} {h : mM}, (k0 = 5 ∨ k0 = 6) → (oc, i, 0) ∈ CHl → wds st ≤ 8 → inA x (ct k0).length → Dc cc pcs j (.invokevirtual i) 3 nx → Go (fun H locs pc la sv => W p l e Rm s m args below meth c H locs cells slots Q (F0 m pc la sv)) D A tys ad aC nL s pcs S r (nx) (ls) (mI ((nth (ct k0) x.toNat).getD 0) :: st) (h) → Go (fun H locs pc la sv => W p l e Rm s m args below meth c H locs cells slots Q (F0 m pc la sv)) D A tys ad aC nL s pcs S r (j) (ls) (mI x :: mC k0 :: st) (h)) (hN : ∀ j ls st h, N j ls st h = some res → Go (fun H locs pc la sv => W p l e Rm s m args below meth c H locs cells slots Q (F0 m pc la sv)) D A tys ad aC nL s pcs S r (j) (ls) (st) (h)) (hok : okI id cc pcs ixs oc rk maxL j (.arraylength, nx, lst) = true) (H : ex1 S r ct cl ret N (.arraylength, nx, lst) ls st h = some res) : Go (fun H locs pc la sv => W p l e Rm s m args below meth c H locs cells slots Q (F0 m pc la sv)) D A tys ad aC nL s pcs S r (j) (ls) (st) (h) := by
  unfold ex1 at H
  unfold okI at hok
  dsimp only at H hok
  split at hok
  · split at H
    · next k0 rest t heq =>
      cases heq
      split at H
      · split at H
        · next hk0 =>
          obtain ⟨w8, H⟩ := few_spec H
          exact go_clen hx hb (hA.1 _ (Nat.le_add_left _ _) (Nat.succ_le_succ (Nat.le_of_ble_eq_true hk0))) (hct _).2 (okD_spec hok) (hN _ _ _ _ H)
        · cases H
      · next q => exact absurd rfl q
    · cases H
  · split at H
    · next k0 rest t heq =>
      cases heq
      split at H
      · next q => cases q
      · split at H
        · next hk0 =>
          obtain ⟨w8, H⟩ := few_spec H
          rw [Bool.and_eq_true] at hok
          exact hLen (k56 hk0) (mem_elem hok.1) w8 (okD_spec hok.2) (hN _ _ _ _ H)
        · cases H
    · cases H
  · cases hok
theorem s1_caload (hx : p.tables.exec = Jvm.exec) (hb : c.code = cc) (hts : ∀ w ∈ lw_g, w.before args s = true) (hown : s.vm.findClass (RN oc) = some m.cls) (hml : c.maxLocals = nL) (hK : va_K D vwCl tys s) (hR : 1 ≤ Rm.frames ∧ 100 ≤ Rm.locals ∧ cells ≤ Rm.cells ∧ slots ≤ Rm.slots) (hA : Amb ct aC A s s.heap) (hct : ctOk ct) (hLen : ∀ {j nx i k0 : Nat} {ls st : List mv} {h : mM}, (k0 = 5 ∨ k0 = 6) → (oc, i, 1) ∈ CHl → wds st ≤ 8 → Dc cc pcs j (.invokevirtual i) 3 nx → Go (fun H locs pc la sv => W p l e Rm s m args below meth c H locs cells slots Q (F0 m pc la sv)) D A tys ad aC nL s pcs S r (nx) (ls) (mI ((ct k0).length : Int) :: st) (h) → Go (fun H locs pc la sv => W p l e Rm s m args below meth c H locs cells slots Q (F0 m pc la sv)) D A tys ad aC nL s pcs S r (j) (ls) (mC k0 :: st) (h)) (hChr : ∀ {j nx i k0 : Nat} {x : Int} {ls st : List mv} {h : mM}, (k0 = 5 ∨ k0 = 6) → (oc, i, 0) ∈ CHl → wds st ≤ 8 → inA x (ct k0).length → Dc cc pcs j (.invokevirtual i) 3 nx → Go (fun H locs pc la sv => W p l e Rm s m args below meth c H locs cells slots Q (F0 m pc la sv)) D A tys ad aC nL s pcs S r (nx) (ls) (mI ((nth (ct k0) x.toNat).getD 0) :: st) (h) → Go (fun H locs pc la sv => W p l e Rm s m args below meth c H locs cells slots Q (F0 m pc la sv)) D A tys ad aC nL s pcs S r (j) (ls) (mI x :: mC k0 :: st) (h)) (hN : ∀ j ls st h, N j ls st h = some res → Go (fun H locs pc la sv => W p l e Rm s m args below meth c H locs cells slots Q (F0 m pc la sv)) D A tys ad aC nL s pcs S r (j) (ls) (st) (h)) (hok : okI id cc pcs ixs oc rk maxL j (.caload, nx, lst) = true) (H : ex1 S r ct cl ret N (.caload, nx, lst) ls st h = some res) : Go (fun H locs pc la sv => W p l e Rm s m args below meth c H locs cells slots Q (F0 m pc la sv)) D A tys ad aC nL s pcs S r (j) (ls) (st) (h) := by
  unfold ex1 at H
  unfold okI at hok
  dsimp only at H hok
  simp only [Bool.and_eq_true] at hok
  split at H
  · next x k0 rest =>
    split at H
    · next hk0 =>
      obtain ⟨w8, H⟩ := few_spec H
      split at H
      · next g => exact hChr (k56 hk0) (mem_elem hok.1) w8 g (okD_spec hok.2) (hN _ _ _ _ H)
      · cases H
    · cases H
  · cases H
theorem s1_swap (hx : p.tables.exec = Jvm.exec) (hb : c.code = cc) (hts : ∀ w ∈ lw_g, w.before args s = true) (hown : s.vm.findClass (RN oc) = some m.cls) (hml : c.maxLocals = nL) (hK : va_K D vwCl tys s) (hR : 1 ≤ Rm.frames ∧ 100 ≤ Rm.locals ∧ cells ≤ Rm.cells ∧ slots ≤ Rm.slots) (hA : Amb ct aC A s s.heap) (hct : ctOk ct)  (hN : ∀ j ls st h, N j ls st h = some res → Go (fun H locs pc la sv => W p l e Rm s m args below meth c H locs cells slots Q (F0 m pc la sv)) D A tys ad aC nL s pcs S r (j) (ls) (st) (h)) (hok : okI id cc pcs ixs oc rk maxL j (.swap, nx, lst) = true) (H : ex1 S r ct cl ret N (.swap, nx, lst) ls st h = some res) : Go (fun H locs pc la sv => W p l e Rm s m args below meth c H locs cells slots Q (F0 m pc la sv)) D A tys ad aC nL s pcs S r (j) (ls) (st) (h) := by
  unfold ex1 at H
  unfold okI at hok
  dsimp only at H hok
  split at H
  · next n y b x a rest ty =>
    simp only [Bool.and_eq_true] at hok
    obtain ⟨⟨h1, h2⟩, h3⟩ := hok
    split at H
    · next na hna =>
      split at H
      · next nb hnb =>
        obtain ⟨w8, H⟩ := few_spec H
        split at H
        · next g =>
          split at h3
          · next q => cases q; exact go_copyI hx hb hown (hts _ (JMl_ok (mem_elem h1))) (hts _ sysN) (hts _ sysS) (hts _ sysI) hml hK hR w8 (mArr_spec hna) (mArr_spec hnb) g (okD_spec h2) (hN _ _ _ _ H)
          · next q => cases q; exact go_copyL hx hb hown (hts _ (JMl_ok (mem_elem h1))) (hts _ sysN) (hts _ sysS) (hts _ sysI) hml hK hR w8 (mArr_spec hna) (mArr_spec hnb) g (okD_spec h2) (hN _ _ _ _ H)
          · cases h3
        · cases H
      · cases H
    · cases H
  · next n y b x k0 rest _ =>
    simp only [Bool.and_eq_true] at hok
    obtain ⟨⟨h1, h2⟩, h3⟩ := hok
    split at H
    · next hk0 =>
      split at H
      · next nb hnb =>
        obtain ⟨w8, H⟩ := few_spec H
        split at H
        · next g => exact go_copyC hx hb hown (hts _ (JMl_ok (mem_elem h1))) (hts _ sysN) (hts _ sysS) (hts _ sysI) hml hK hR w8 (hA.1 _ (Nat.le_add_left _ _) (Nat.succ_le_succ (Nat.le_of_ble_eq_true hk0))) (hct _).1 (mArr_spec hnb) g (okD_spec h2) (hN _ _ _ _ H)
        · cases H
      · cases H
    · cases H
  · cases H
end
