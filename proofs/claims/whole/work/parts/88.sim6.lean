/-! SIM 6: one small instruction as a whole -/
section
variable {p : Program} {l : Launch} {e : Env} {Rm : Room} {s : State} {m : MethodId} {args : Array Value} {below : List Frame} {meth : Method} {c : Code} {cc : ByteArray} {D : va_G} {A : Nat → Prop} {tys : List (ClassId × FieldType)} {ad aC : Nat → Nat} {nL cells slots : Nat} {Q : State → Prop} {pcs : List Nat} {S : mSh} {r : mRf} {j nx : Nat} {ls st : List mv} {h : mM} {id oc rk maxL : Nat} {ixs lst : List Nat} {ct : Nat → List Int} {cl : Nat → Nat → List mv → mM → Option (List mv × mM)} {ρ : Type} {ret : List mv → mM → Option ρ} {N : Nat → List mv → List mv → mM → Option ρ} {res : ρ}
theorem s1_ireturn (hret : ∀ v h, ret v h = some res → RT cc pcs id j v → Go (fun H locs pc la sv => W p l e Rm s m args below meth c H locs cells slots Q (F0 m pc la sv)) D A tys ad aC nL s pcs S r (j) (ls) (v) (h)) (hok : okI id cc pcs ixs oc rk maxL j (.ireturn, nx, lst) = true) (H : ex1 S r ct cl ret N (.ireturn, nx, lst) ls st h = some res) : Go (fun H locs pc la sv => W p l e Rm s m args below meth c H locs cells slots Q (F0 m pc la sv)) D A tys ad aC nL s pcs S r (j) (ls) (st) (h) := by
  unfold ex1 at H
  unfold okI at hok
  dsimp only at H hok
  rw [Bool.and_eq_true] at hok
  obtain ⟨h1, h2⟩ := hok
  split at h2
  · next q =>
    split at H
    · next x ty heq =>
      cases heq
      split at H
      · exact hret _ _ H (Or.inr (Or.inl ⟨x, rfl, okE_spec h1, Or.inl q⟩))
      · next z => exact absurd rfl z
    · cases H
  · next q =>
    split at H
    · next x ty heq =>
      cases heq
      split at H
      · next z => cases z
      · split at H
        · next g => exact hret _ _ H (Or.inr (Or.inl ⟨x, rfl, okE_spec h1, Or.inr ⟨q, g⟩⟩))
        · cases H
    · cases H
  · cases h2
theorem s1_lreturn (hret : ∀ v h, ret v h = some res → RT cc pcs id j v → Go (fun H locs pc la sv => W p l e Rm s m args below meth c H locs cells slots Q (F0 m pc la sv)) D A tys ad aC nL s pcs S r (j) (ls) (v) (h)) (hok : okI id cc pcs ixs oc rk maxL j (.lreturn, nx, lst) = true) (H : ex1 S r ct cl ret N (.lreturn, nx, lst) ls st h = some res) : Go (fun H locs pc la sv => W p l e Rm s m args below meth c H locs cells slots Q (F0 m pc la sv)) D A tys ad aC nL s pcs S r (j) (ls) (st) (h) := by
  unfold ex1 at H
  unfold okI at hok
  dsimp only at H hok
  rw [Bool.and_eq_true] at hok
  obtain ⟨h1, h2⟩ := hok
  split at h2
  · next q =>
    split at H
    · next x => exact hret _ _ H (Or.inr (Or.inr (Or.inl ⟨x, rfl, okE_spec h1, q⟩)))
    · cases H
  · cases h2
theorem s1_areturn (hret : ∀ v h, ret v h = some res → RT cc pcs id j v → Go (fun H locs pc la sv => W p l e Rm s m args below meth c H locs cells slots Q (F0 m pc la sv)) D A tys ad aC nL s pcs S r (j) (ls) (v) (h)) (hok : okI id cc pcs ixs oc rk maxL j (.areturn, nx, lst) = true) (H : ex1 S r ct cl ret N (.areturn, nx, lst) ls st h = some res) : Go (fun H locs pc la sv => W p l e Rm s m args below meth c H locs cells slots Q (F0 m pc la sv)) D A tys ad aC nL s pcs S r (j) (ls) (st) (h) := by
  unfold ex1 at H
  unfold okI at hok
  dsimp only at H hok
  rw [Bool.and_eq_true] at hok
  obtain ⟨h1, h2⟩ := hok
  split at h2
  · next q =>
    split at H
    · next x => exact hret _ _ H (Or.inr (Or.inr (Or.inr ⟨x, _, rfl, okE_spec h1, q⟩)))
    · cases H
  · cases h2
theorem s1_return_ (hret : ∀ v h, ret v h = some res → RT cc pcs id j v → Go (fun H locs pc la sv => W p l e Rm s m args below meth c H locs cells slots Q (F0 m pc la sv)) D A tys ad aC nL s pcs S r (j) (ls) (v) (h)) (hok : okI id cc pcs ixs oc rk maxL j (.return_, nx, lst) = true) (H : ex1 S r ct cl ret N (.return_, nx, lst) ls st h = some res) : Go (fun H locs pc la sv => W p l e Rm s m args below meth c H locs cells slots Q (F0 m pc la sv)) D A tys ad aC nL s pcs S r (j) (ls) (st) (h) := by
  unfold ex1 at H
  unfold okI at hok
  dsimp only at H hok
  rw [Bool.and_eq_true] at hok
  obtain ⟨h1, h2⟩ := hok
  split at h2
  · next q =>
    split at H
    · exact hret _ _ H (Or.inl ⟨rfl, okE_spec h1, q⟩)
    · cases H
  · cases h2
theorem s1_all (hx : p.tables.exec = Jvm.exec) (hb : c.code = cc) (hts : ∀ w ∈ lw_g, w.before args s = true) (hown : s.vm.findClass (RN oc) = some m.cls) (hml : c.maxLocals = nL) (hK : va_K D vwCl tys s) (hR : 1 ≤ Rm.frames ∧ 100 ≤ Rm.locals ∧ cells ≤ Rm.cells ∧ slots ≤ Rm.slots) (hA : Amb ct aC A s s.heap) (hct : ctOk ct) (hLen : ∀ {j nx i k0 : Nat} {ls st : List mv} {h : mM}, (k0 = 5 ∨ k0 = 6) → (oc, i, 1) ∈ CHl → wds st ≤ 8 → Dc cc pcs j (.invokevirtual i) 3 nx → Go (fun H locs pc la sv => W p l e Rm s m args below meth c H locs cells slots Q (F0 m pc la sv)) D A tys ad aC nL s pcs S r (nx) (ls) (mI ((ct k0).length : Int) :: st) (h) → Go (fun H locs pc la sv => W p l e Rm s m args below meth c H locs cells slots Q (F0 m pc la sv)) D A tys ad aC nL s pcs S r (j) (ls) (mC k0 :: st) (h)) (hChr : ∀ {j nx i k0 : Nat} {x : Int} {ls st : List mv} {h : mM}, (k0 = 5 ∨ k0 = 6) → (oc, i, 0) ∈ CHl → wds st ≤ 8 → inA x (ct k0).length → Dc cc pcs j (.invokevirtual i) 3 nx → Go (fun H locs pc la sv => W p l e Rm s m args below meth c H locs cells slots Q (F0 m pc la sv)) D A tys ad aC nL s pcs S r (nx) (ls) (mI ((nth (ct k0) x.toNat).getD 0) :: st) (h) → Go (fun H locs pc la sv => W p l e Rm s m args below meth c H locs cells slots Q (F0 m pc la sv)) D A tys ad aC nL s pcs S r (j) (ls) (mI x :: mC k0 :: st) (h)) (hN : ∀ j ls st h, N j ls st h = some res → Go (fun H locs pc la sv => W p l e Rm s m args below meth c H locs cells slots Q (F0 m pc la sv)) D A tys ad aC nL s pcs S r (j) (ls) (st) (h)) (hret : ∀ v h, ret v h = some res → RT cc pcs id j v → Go (fun H locs pc la sv => W p l e Rm s m args below meth c H locs cells slots Q (F0 m pc la sv)) D A tys ad aC nL s pcs S r (j) (ls) (v) (h)) {i : mIn} (hni : ∀ id9, i.1 ≠ .invokestatic id9) (hok : okI id cc pcs ixs oc rk maxL j i = true) (H : ex1 S r ct cl ret N i ls st h = some res) : Go (fun H locs pc la sv => W p l e Rm s m args below meth c H locs cells slots Q (F0 m pc la sv)) D A tys ad aC nL s pcs S r (j) (ls) (st) (h) := by
  obtain ⟨o, nx, lst⟩ := i
  cases o
  case aaload => exact s1_aaload hx hb hts hown hml hK hR hA hct hN hok H
  case aload a0 => exact s1_aload hx hb hts hown hml hK hR hA hct hN hok H
  case arraylength => exact s1_arraylength hx hb hts hown hml hK hR hA hct hLen hChr hN hok H
  case astore a0 => exact s1_astore hx hb hts hown hml hK hR hA hct hN hok H
  case baload => exact s1_baload hx hb hts hown hml hK hR hA hct hN hok H
  case bastore => exact s1_bastore hx hb hts hown hml hK hR hA hct hN hok H
  case caload => exact s1_caload hx hb hts hown hml hK hR hA hct hLen hChr hN hok H
  case dadd => exact s1_dadd hx hb hts hown hml hK hR hA hct hN hok H
  case dmul => exact s1_dmul hx hb hts hown hml hK hR hA hct hN hok H
  case dneg => exact s1_dneg hx hb hts hown hml hK hR hA hct hN hok H
  case dsub => exact s1_dsub hx hb hts hown hml hK hR hA hct hN hok H
  case dup => exact s1_dup hx hb hts hown hml hK hR hA hct hN hok H
  case dup2 => exact s1_dup2 hx hb hts hown hml hK hR hA hct hN hok H
  case getfield a0 => exact s1_getfield hx hb hts hown hml hK hR hA hct hN hok H
  case goto a0 => exact s1_goto hx hb hts hown hml hK hR hA hct hN hok H
  case i2b => exact s1_i2b hx hb hts hown hml hK hR hA hct hN hok H
  case i2l => exact s1_i2l hx hb hts hown hml hK hR hA hct hN hok H
  case i2s => exact s1_i2s hx hb hts hown hml hK hR hA hct hN hok H
  case iadd => exact s1_iadd hx hb hts hown hml hK hR hA hct hN hok H
  case iaload => exact s1_iaload hx hb hts hown hml hK hR hA hct hN hok H
  case iand => exact s1_iand hx hb hts hown hml hK hR hA hct hN hok H
  case iastore => exact s1_iastore hx hb hts hown hml hK hR hA hct hN hok H
  case iconst a0 => exact s1_iconst hx hb hts hown hml hK hR hA hct hN hok H
  case idiv => exact s1_idiv hx hb hts hown hml hK hR hA hct hN hok H
  case ifCond a0 a1 => exact s1_ifCond hx hb hts hown hml hK hR hA hct hN hok H
  case if_icmp a0 a1 => exact s1_if_icmp hx hb hts hown hml hK hR hA hct hN hok H
  case iinc a0 a1 => exact s1_iinc hx hb hts hown hml hK hR hA hct hN hok H
  case iload a0 => exact s1_iload hx hb hts hown hml hK hR hA hct hN hok H
  case imul => exact s1_imul hx hb hts hown hml hK hR hA hct hN hok H
  case ior => exact s1_ior hx hb hts hown hml hK hR hA hct hN hok H
  case irem => exact s1_irem hx hb hts hown hml hK hR hA hct hN hok H
  case ishl => exact s1_ishl hx hb hts hown hml hK hR hA hct hN hok H
  case ishr => exact s1_ishr hx hb hts hown hml hK hR hA hct hN hok H
  case istore a0 => exact s1_istore hx hb hts hown hml hK hR hA hct hN hok H
  case isub => exact s1_isub hx hb hts hown hml hK hR hA hct hN hok H
  case iushr => exact s1_iushr hx hb hts hown hml hK hR hA hct hN hok H
  case ixor => exact s1_ixor hx hb hts hown hml hK hR hA hct hN hok H
  case l2i => exact s1_l2i hx hb hts hown hml hK hR hA hct hN hok H
  case ladd => exact s1_ladd hx hb hts hown hml hK hR hA hct hN hok H
  case laload => exact s1_laload hx hb hts hown hml hK hR hA hct hN hok H
  case land => exact s1_land hx hb hts hown hml hK hR hA hct hN hok H
  case lastore => exact s1_lastore hx hb hts hown hml hK hR hA hct hN hok H
  case lcmp => exact s1_lcmp hx hb hts hown hml hK hR hA hct hN hok H
  case sipush a0 => exact s1_lconst hx hb hts hown hml hK hR hA hct hN hok H
  case ldc a0 => exact s1_ldc hx hb hts hown hml hK hR hA hct hN hok H
  case ldiv => exact s1_ldiv hx hb hts hown hml hK hR hA hct hN hok H
  case lload a0 => exact s1_lload hx hb hts hown hml hK hR hA hct hN hok H
  case lmul => exact s1_lmul hx hb hts hown hml hK hR hA hct hN hok H
  case lookupswitch a0 a1 => exact s1_lookup hx hb hts hown hml hK hR hA hct hN hok H
  case lor => exact s1_lor hx hb hts hown hml hK hR hA hct hN hok H
  case lrem => exact s1_lrem hx hb hts hown hml hK hR hA hct hN hok H
  case lshl => exact s1_lshl hx hb hts hown hml hK hR hA hct hN hok H
  case lstore a0 => exact s1_lstore hx hb hts hown hml hK hR hA hct hN hok H
  case lsub => exact s1_lsub hx hb hts hown hml hK hR hA hct hN hok H
  case pop => exact s1_pop hx hb hts hown hml hK hR hA hct hN hok H
  case putfield a0 => exact s1_putfield hx hb hts hown hml hK hR hA hct hN hok H
  case swap => exact s1_swap hx hb hts hown hml hK hR hA hct hN hok H
  case tableswitch a0 a1 a2 a3 => exact s1_table hx hb hts hown hml hK hR hA hct hN hok H
  case ireturn => exact s1_ireturn hret hok H
  case lreturn => exact s1_lreturn hret hok H
  case areturn => exact s1_areturn hret hok H
  case return_ => exact s1_return_ hret hok H
  case invokestatic a0 => exact absurd rfl (hni a0)
  all_goals (exfalso; unfold ex1 at H; dsimp only at H; cases H)
end
