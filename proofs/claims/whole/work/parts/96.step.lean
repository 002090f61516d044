/-! ONE STEP OF THE INDUCTION -/
theorem mai_ok : Cond.classLink (RN 9) 11 "[[J" ∈ lw_g := mem_g (by decide +kernel) rfl
theorem okI_lt {id oc rk maxL j t nx na fl kd w rc : Nat} {cc : ByteArray} {pcs ixs : List Nat} (hok : okI id cc pcs ixs oc rk maxL j (.invokestatic t, nx, [na, fl, kd, w, rc]) = true) : t < 357 := by
  unfold okI at hok
  dsimp only at hok
  simp only [Bool.and_eq_true, Bool.or_eq_true, decide_eq_true_eq] at hok
  obtain ⟨-, k4⟩ := hok
  have key : ∀ x : Nat × Nat × Nat, x ∈ VLl ++ (SLl ++ NSl) ++ (ILl ++ NIl) → x.2.2 < 357 := fun x hx => by
    have q := List.all_eq_true.mp LNl_q x hx
    rw [Nat.blt_eq] at q
    exact q
  rcases k4 with ((((z | z) | z) | z) | z) | z
  · exact key _ (List.mem_append_left _ (List.mem_append_left _ (mem_v z.1.1.1)))
  · exact key _ (List.mem_append_left _ (List.mem_append_right _ (List.mem_append_left _ (mem_elem z.1.1))))
  · exact key _ (List.mem_append_right _ (List.mem_append_left _ (mem_elem z.1.1.1)))
  · exact absurd z.1.1 (by rw [NVl_q]; simp)
  · exact key _ (List.mem_append_left _ (List.mem_append_right _ (List.mem_append_right _ (mem_elem z.1.1))))
  · exact key _ (List.mem_append_right _ (List.mem_append_right _ (mem_elem z.1.1.1)))
set_option maxHeartbeats 2000000 in
theorem simB_step {ct : Nat → List Int} (hMn : MnaR) (hC : Chk) (hct : ctOk ct) (hch : ∀ k, (k = 5 ∨ k = 6) → ∀ v ∈ ct k, 0 ≤ v ∧ v < 128) {n : Nat} (hB : SimB ct n) (hM : SimM ct n) : SimB ct (n + 1) := by
  intro p l e Rm s m args below meth c Q D A aC id d fx j ls st g res ad tys cells slots CE SE H hr hK hcc hss hCE hSE hret
  have hgr := (exR_grow hC ct (n + 1) d id j ls st g hr res H).2
  obtain ⟨gr1, gr2⟩ := grow_len hgr
  obtain ⟨hx, hb, hts, hown, hml, hA, hA0, hfr, hlo, hnm⟩ := (show Fx ct aC A p Rm s m args meth c id d from fx)
  rw [exR_succ] at H
  split at H
  · cases H
  next i hi =>
  have hok := hC id j i hi
  have hR : 1 ≤ Rm.frames ∧ 100 ≤ Rm.locals ∧ cells ≤ Rm.cells ∧ slots ≤ Rm.slots := ⟨by omega, by omega, by omega, by omega⟩
  have h1 : (∀ id9, i.1 ≠ .invokestatic id9) → ex1 g.1 g.2.1 ct (fun _ _ _ _ => none) (fun v m => some (v, (g.1, g.2.1, m))) (fun j ls st m => exR PP ct n d (PP id).1 j ls st (g.1, g.2.1, m)) i ls st g.2.2 = some res → Go (fun H locs pc la sv => W p l e Rm s m args below meth c H locs cells slots Q (F0 m pc la sv)) D A tys ad aC (PP id).2 s (mtP id) g.1 g.2.1 j ls st g.2.2 := fun hni H1 =>
    s1_all hx hb hts hown hml hK hR hA hct (fun z1 z2 z3 z4 z5 => go_len hx hb hts hown hml ⟨by omega, by omega, hR.2.2.1, hR.2.2.2⟩ hA hct z1 z2 z3 z4 z5) (fun z1 z2 z3 z4 z5 z6 => go_chr hx hb hts hown hml ⟨by omega, by omega, hR.2.2.1, hR.2.2.2⟩ hA hct hch z1 z2 z3 z4 z5 z6)
      (fun j ls st h H9 => hB p l e Rm s m args below meth c Q D A aC id d fx j ls st (g.1, g.2.1, h) res ad tys cells slots CE SE H9 hr hK hcc hss hCE hSE hret)
      (fun v h H9 hRT => by
        cases H9
        dsimp only at hcc hss
        obtain rfl : cells = CE := by omega
        obtain rfl : slots = SE := by omega
        exact hret ad tys j ls (fun _ _ => rfl) hRT hK) hni hok H1
  obtain ⟨o, nx, lst⟩ := i
  have hok0 := hok
  unfold ex2 at H
  dsimp only at H h1
  split at H
  · -- new
    next ci =>
    unfold okI at hok
    dsimp only at hok
    simp only [Bool.and_eq_true] at hok
    obtain ⟨⟨z1, z2⟩, z3⟩ := hok
    split at H
    · next nf =>
      split at z3
      · next f q hf =>
        cases q
        have enf := Nat.eq_of_beq_eq_true z3
        rw [enf] at H
        have hr9 : rOk (g.1 ++ [.inl ci]) (g.2.1 ++ [List.replicate f.length none]) := rOk_one hr (show rowOk (.inl ci) (List.replicate f.length none) from fun f' hf' => by cases hf.symm.trans hf'; rw [List.length_replicate])
        obtain ⟨q1, q2⟩ := grow_len (exR_grow hC ct n d id _ _ _ (_, _, _) hr9 res H).2
        have e1 : (g.1 ++ [Sum.inl ci]).length = g.1.length + 1 := by simp
        have e2 : slo (g.1 ++ [Sum.inl ci]) = slo g.1 + f.length := by rw [slo_app]; simp [slo, hf]
        dsimp only at q1 q2
        rw [e1] at q1
        rw [e2] at q2
        exact go_new hx hb hts hown hK hf (hts _ (CKl_ok (mem_elem z1))) hA0 hr.1 (by omega) (by omega) (okD_spec z2) (fun ad9 hag => hB p l e Rm s m args below meth c Q D A aC id d fx _ _ _ (_, _, _) res ad9 tys _ _ CE SE H hr9 hK (by dsimp only; rw [e1]; omega) (by dsimp only; rw [e2]; omega) hCE hSE (fun ad' tys' j' ls' hag' hRT hK' => hret ad' tys' j' ls' (fun a ha => (hag' a (by dsimp only; rw [e1]; omega)).trans (hag a ha)) hRT hK'))
      · cases z3
    · cases H
  · -- newarray
    next at9 =>
    split at H
    · next n9 st ty =>
      unfold okI at hok
      dsimp only at hok
      rw [Bool.and_eq_true] at hok
      obtain ⟨z1, z2⟩ := hok
      split at H
      rotate_left
      · cases H
      next g9 =>
      have hr9 : ∀ ty, ty < 3 → rOk (g.1 ++ [.inr (ty, n9.toNat)]) (g.2.1 ++ [[]]) := fun ty ht => rOk_one hr (show rowOk (.inr (ty, _)) _ from fun q => by omega)
      have e1 : ∀ ty : Nat, (g.1 ++ [Sum.inr (ty, n9.toNat)]).length = g.1.length + 1 := fun ty => by simp
      have e2 : ∀ ty : Nat, slo (g.1 ++ [Sum.inr (ty, n9.toNat)]) = slo g.1 + n9.toNat := fun ty => by rw [slo_app]; simp [slo]
      have key : ∀ ty, ty < 3 → exR PP ct n d (PP id).1 nx ls (mR g.1.length :: st) (g.1 ++ [.inr (ty, n9.toNat)], g.2.1 ++ [[]], g.2.2) = some res → cells + 1 ≤ Rm.cells ∧ slots + n9.toNat ≤ Rm.slots ∧ ∀ ad9 : Nat → Nat, (∀ a, a < g.1.length → ad9 a = ad a) → ∀ tys9, va_K D vwCl tys9 s → Go (fun H locs pc la sv => W p l e Rm s m args below meth c H locs (cells + 1) (slots + n9.toNat) Q (F0 m pc la sv)) D A tys9 ad9 aC (PP id).2 s (mtP id) (g.1 ++ [.inr (ty, n9.toNat)]) (g.2.1 ++ [[]]) nx ls (mR g.1.length :: st) g.2.2 := by
        intro ty ht H
        obtain ⟨q1, q2⟩ := grow_len (exR_grow hC ct n d id _ _ _ (_, _, _) (hr9 ty ht) res H).2
        dsimp only at q1 q2
        rw [e1] at q1
        rw [e2] at q2
        exact ⟨by omega, by omega, fun ad9 hag tys9 hK9 => hB p l e Rm s m args below meth c Q D A aC id d fx _ _ _ (_, _, _) res ad9 tys9 _ _ CE SE H (hr9 ty ht) hK9 (by dsimp only; rw [e1]; omega) (by dsimp only; rw [e2]; omega) hCE hSE (fun ad' tys' j' ls' hag' hRT hK' => hret ad' tys' j' ls' (fun a ha => (hag' a (by dsimp only; rw [e1]; omega)).trans (hag a ha)) hRT hK')⟩
      split at z1
      · next q =>
        cases q
        have ea := of_decide_eq_true z1
        subst ea
        obtain ⟨w1, w2, w3⟩ := key 0 (by omega) H
        exact go_newI hx hb hts hK hA0 hr.1 g9 w1 w2 (okD_spec z2) w3
      · next q =>
        cases q
        have ea := of_decide_eq_true z1
        subst ea
        obtain ⟨w1, w2, w3⟩ := key 1 (by omega) H
        exact go_newL hx hb hts hK hA0 hr.1 g9 w1 w2 (okD_spec z2) w3
      · next q =>
        cases q
        have ea := of_decide_eq_true z1
        subst ea
        obtain ⟨w1, w2, w3⟩ := key 2 (by omega) H
        exact go_newB hx hb hts hK hA0 hr.1 g9 w1 w2 (okD_spec z2) w3
      · cases z1
    · cases H
  · -- anewarray
    next ci =>
    split at H
    · next n9 st =>
      unfold okI at hok
      dsimp only at hok
      simp only [Bool.and_eq_true, Bool.or_eq_true] at hok
      obtain ⟨⟨z1, z2⟩, z3⟩ := hok
      split at H
      rotate_left
      · cases H
      next g9 =>
      have hAO : va_AO (cnm ci) s := by
        rcases z3 with z3 | z3
        · rw [Nat.eq_of_beq_eq_true z3]; exact hA.2.2.2.2.2.1
        · rw [Nat.eq_of_beq_eq_true z3]; exact hA.2.2.2.2.2.2.1
      have hr9 : rOk (g.1 ++ [.inr (10 + ci, n9.toNat)]) (g.2.1 ++ [List.replicate n9.toNat none]) := rOk_one hr (show rowOk (.inr (_, _)) (List.replicate _ none) from fun _ => by rw [List.length_replicate])
      have e1 : (g.1 ++ [Sum.inr (10 + ci, n9.toNat)]).length = g.1.length + 1 := by simp
      have e2 : slo (g.1 ++ [Sum.inr (10 + ci, n9.toNat)]) = slo g.1 + n9.toNat := by rw [slo_app]; simp [slo]
      obtain ⟨q1, q2⟩ := grow_len (exR_grow hC ct n d id _ _ _ (_, _, _) hr9 res H).2
      dsimp only at q1 q2
      rw [e1] at q1
      rw [e2] at q2
      exact go_newq hx hb hts hown hK (hts _ (CKl_ok (mem_elem z1))) hAO hA0 hr.1 g9 (by omega) (by omega) (okD_spec z2) (fun ad9 hag tys9 hK9 => hB p l e Rm s m args below meth c Q D A aC id d fx _ _ _ (_, _, _) res ad9 tys9 _ _ CE SE H hr9 hK9 (by dsimp only; rw [e1]; omega) (by dsimp only; rw [e2]; omega) hCE hSE (fun ad' tys' j' ls' hag' hRT hK' => hret ad' tys' j' ls' (fun a ha => (hag' a (by dsimp only; rw [e1]; omega)).trans (hag a ha)) hRT hK'))
    · cases H
  · -- multianewarray
    split at H
    · next k9 n9 st =>
      unfold okI at hok
      dsimp only at hok
      rw [Bool.and_eq_true] at hok
      obtain ⟨z1, z2⟩ := hok
      split at H
      rotate_left
      · cases H
      next g9 =>
      obtain ⟨eo, ei⟩ : mtO id = 9 ∧ pcA (mtX id) j = 11 := by
        have z0 := mem_elem z1
        unfold MAl at z0
        have := List.mem_singleton.mp z0
        exact ⟨congrArg Prod.fst this, congrArg Prod.snd this⟩
      have hcl : (Cond.classLink (RN (mtO id)) (pcA (mtX id) j) "[[J").before args s = true := by rw [eo, ei]; exact hts _ mai_ok
      have hr9 := rOk_mna (f := fun q => some (g.1.length + 1 + q)) (n := n9.toNat) (k := k9.toNat) hr
      have e1 : (g.1 ++ (Sum.inr (3, n9.toNat) :: List.replicate n9.toNat (Sum.inr (1, k9.toNat)))).length = g.1.length + (1 + n9.toNat) := by simp; omega
      have e2 : slo (g.1 ++ (Sum.inr (3, n9.toNat) :: List.replicate n9.toNat (Sum.inr (1, k9.toNat)))) = slo g.1 + (n9.toNat + n9.toNat * k9.toNat) := by rw [slo_app, slo, slo_rep]
      obtain ⟨q1, q2⟩ := grow_len (exR_grow hC ct n d id _ _ _ (_, _, _) hr9 res H).2
      dsimp only at q1 q2
      rw [e1] at q1
      rw [e2] at q2
      exact go_mna hMn hx hb hts hown hK hcl hA.2.2.2.2.2.2.2.1 hA0 hr.1 g9 (by omega) (by omega) (okD_spec z2) (fun ad9 hag tys9 hK9 => hB p l e Rm s m args below meth c Q D A aC id d fx _ _ _ (_, _, _) res ad9 tys9 _ _ CE SE H hr9 hK9 (by dsimp only; rw [e1]; omega) (by dsimp only; rw [e2]; omega) hCE hSE (fun ad' tys' j' ls' hag' hRT hK' => hret ad' tys' j' ls' (fun a ha => (hag' a (by dsimp only; rw [e1]; omega)).trans (hag a ha)) hRT hK'))
    · cases H
  · -- aastore
    split at H
    · next v9 x a st ty =>
      unfold okI at hok
      dsimp only at hok
      simp only [Bool.and_eq_true] at hok
      obtain ⟨⟨z1, z2⟩, z3⟩ := hok
      split at H
      · next n9 ha =>
        split at H
        · next hv9 =>
          split at H
          rotate_left
          · cases H
          next g9 =>
          have ho := mArr_spec ha
          have hvo := mObj_spec hv9
          have ety : ty = 10 + (ty - 10) := by omega
          rw [ety] at ho
          exact go_astq (f := []) hx hb hK ho hvo g9.1 hr (okD_spec z1) (hB p l e Rm s m args below meth c Q D A aC id d fx _ _ _ (_, _, _) res ad tys _ _ CE SE H (rOk_set hr) hK hcc hss hCE hSE hret)
        · cases H
      · cases H
    · cases H
  · -- Object's constructor
    split at H
    · next a st =>
      unfold okI at hok
      dsimp only at hok
      rw [Bool.and_eq_true] at hok
      obtain ⟨z1, z2⟩ := hok
      obtain ⟨hw8, H⟩ := few_spec H
      exact go_objI hx hb hts hown (hts _ (OIl_ok (mem_elem z1))) hml ⟨hR.1, hR.2.1⟩ hw8 (okD_spec z2) (hB p l e Rm s m args below meth c Q D A aC id d fx _ _ _ _ res ad tys _ _ CE SE H hr hK hcc hss hCE hSE hret)
    · cases H
  · -- a call
    next t =>
    split at H
    · next na fl kd w rc =>
      split at H
      · next cargs rest hT =>
        split at H
        rotate_left
        · cases H
        next hq =>
        rw [Bool.and_eq_true] at hq
        obtain ⟨hw8, H⟩ := few_spec H
        split at H
        rotate_left
        · cases H
        next rv g' hcl =>
        have ht := okI_lt hok0
        obtain ⟨d', hdd, hrun⟩ : ∃ d', ((fl = 0 ∧ d' = d) ∨ (0 < fl ∧ d = d' + 1)) ∧ exR PP ct n d' (PP t).1 0 (mPad (PP t).2 (mEntry cargs)) [] g = some (rv, g') := by
          cases fl with
          | zero => exact ⟨d, Or.inl ⟨rfl, rfl⟩, hcl⟩
          | succ fl => cases d with
            | zero => cases hcl
            | succ d => exact ⟨d, Or.inr ⟨by omega, rfl⟩, hcl⟩
        have hMt := hM l D aC d' t cargs g (rv, g') ht hrun
        obtain ⟨r1, r2⟩ := exR_grow hC ct n d' t _ _ _ g hr _ hrun
        obtain ⟨u1, u2⟩ := grow_len r2
        dsimp only at r1 u1 u2
        obtain ⟨t9, ht1, hst9, hcar⟩ := mTake_spec hT
        have hcont : ∀ (v : List mv), exR PP ct n d (PP id).1 nx ls (v ++ rest) g' = some res → cells + (g'.1.length - g.1.length) ≤ Rm.cells ∧ slots + (slo g'.1 - slo g.1) ≤ Rm.slots ∧ ∀ (u : Nat → Nat) (tys' : List (ClassId × FieldType)), (∀ a, a < g.1.length → u a = ad a) → va_K D vwCl tys' s → Go (fun H locs pc la sv => W p l e Rm s m args below meth c H locs (cells + (g'.1.length - g.1.length)) (slots + (slo g'.1 - slo g.1)) Q (F0 m pc la sv)) D A tys' u aC (PP id).2 s (mtP id) g'.1 g'.2.1 nx ls (v ++ rest) g'.2.2 := by
          intro v H
          obtain ⟨q1, q2⟩ := grow_len (exR_grow hC ct n d id _ _ _ _ r1 res H).2
          exact ⟨by omega, by omega, fun u tys' hag hK' => hB p l e Rm s m args below meth c Q D A aC id d fx _ _ _ _ res u tys' _ _ CE SE H r1 hK' (by omega) (by omega) hCE hSE (fun ad' tys' j' ls' hag' hRT hK' => hret ad' tys' j' ls' (fun a ha => (hag' a (by omega)).trans (hag a ha)) hRT hK')⟩
        intro ws Hp locs la pc hpc hL hl hs hm hw hP hD hS hv
        rw [hst9] at hs ⊢
        rw [List.append_nil] at hcar
        have hca : ∀ v ∈ cargs, vOk g.1.length v := fun v hv => hs v (List.mem_append_left _ (by rw [hcar] at hv; exact List.mem_reverse.mp hv))
        have hre : ∀ v ∈ rest, vOk g.1.length v := fun v hv => hs v (List.mem_append_right _ hv)
        have hstk : (t9 ++ rest).map (rV ad aC) = (cargs.map (rV ad aC)).reverse ++ rest.map (rV ad aC) := by
          rw [List.map_append, hcar, List.map_reverse, List.reverse_reverse]
        rw [hstk]
        have hlen : cargs.length = na := by rw [hcar, List.length_reverse]; exact ht1
        have hAA : ∀ q, va_A ws Hp.size q → A q := fun q h => by
          rcases h with ⟨k, e9, h⟩ | h
          · exact hD.2 k _ h
          · exact hA0 q (Nat.le_trans hS.1 h)
        have run9 : cells + (g'.1.length - g.1.length) ≤ Rm.cells → slots + (slo g'.1 - slo g.1) ≤ Rm.slots → _ := fun w1 w2 => run_any (rest := rest) (below := below) (e := e) (meth := meth) hx hb hts hown hml hA hA0 hok0 hfr hlo hdd hMt hr hlen (Nat.le_of_ble_eq_true hq.1) hq.2 hw8 w1 w2 hpc hca hm hw hP hD hS hK hv.1
        have back : ∀ (v : List mv) (u : Nat → Nat) (t9 : State) (H1 : Heap) (locs1 : List Loc), exR PP ct n d (PP id).1 nx ls (v ++ rest) g' = some res → nth (mtP id) nx = some (pc + 3) → t9.heap = H1 → s.vm.Alike t9.vm → Beh D (va_A ws Hp.size) ad g.1.length v g' u t9 → va_S A s.heap H1 locs1 → W p l e Rm s m args below meth c H1 locs1 (cells + (g'.1.length - g.1.length)) (slots + (slo g'.1 - slo g.1)) Q (F0 m (pc + 3) la (v.map (rV u aC) ++ rest.map (rV ad aC))) := by
          intro v u t9 H1 locs1 H hnx ht hvm hBh hS1
          obtain ⟨tys', ws', hag, hvo, hm', hw', hP', hD', hK'⟩ := hBh
          rw [ht] at hP'
          have G := (hcont v H).2.2 u tys' hag (va_K.moved hvm.symm hK') ws' H1 locs1 la (pc + 3) hnx hL (fun x hx => vOk_mono u1 (hl x hx)) (fun x hx => by
            rcases List.mem_append.mp hx with h | h
            · exact hvo x h
            · exact vOk_mono u1 (hre x h)) hm' hw' hP' (hD'.weaken (fun _ _ _ h => hAA _ h)) hS1 (by rw [asc_ag hag hl]; exact hv)
          rw [List.map_append, map_ag hag hre] at G
          exact G
        split at H
        · obtain ⟨w1, w2, -⟩ := hcont [] H
          obtain ⟨hnx, hrn⟩ := run9 w1 w2
          simp only [QcM] at hrn
          exact va_callv hrn hS (fun q _ h => hAA q h) hAA (fun u t9 H1 locs1 ht9 hvm hp9 hB9 hz hk hS1 => back [] u t9 H1 locs1 H hnx ht9 hvm hB9 hS1)
        · next x _ =>
          obtain ⟨w1, w2, -⟩ := hcont [mI x] H
          obtain ⟨hnx, hrn⟩ := run9 w1 w2
          simp only [QcM] at hrn
          exact va_calli hrn hS (fun q _ h => hAA q h) hAA (fun r9 u t9 H1 locs1 ht9 hvm hp9 hB9 hz hk hS1 => by rw [hp9]; exact back [mI x] u t9 H1 locs1 H hnx ht9 hvm hB9 hS1)
        · next x _ =>
          obtain ⟨w1, w2, -⟩ := hcont [mL x] H
          obtain ⟨hnx, hrn⟩ := run9 w1 w2
          simp only [QcM] at hrn
          exact va_calll hrn hS (fun q _ h => hAA q h) hAA (fun r9 u t9 H1 locs1 ht9 hvm hp9 hB9 hz hk hS1 => by rw [hp9]; exact back [mL x] u t9 H1 locs1 H hnx ht9 hvm hB9 hS1)
        · next a _ =>
          obtain ⟨w1, w2, -⟩ := hcont [mR a] H
          obtain ⟨hnx, hrn⟩ := run9 w1 w2
          simp only [QcM] at hrn
          exact va_callr hrn hS (fun q _ h => hAA q h) hAA (fun u ra t9 H1 locs1 ht9 hvm hp9 hB9 hz hk hS1 => by rw [hB9.1]; exact back [mR a] u t9 H1 locs1 H hnx ht9 hvm hB9.2 hS1)
        · cases H
      · cases H
    · cases H
  · -- a reference comes to a field
    next k =>
    split at H
    · next ci v9 a st =>
      split at H
      · next ho9 =>
        have ho := mObj_spec ho9
        unfold okI at hok
        dsimp only at hok
        simp only [Bool.and_eq_true] at hok
        obtain ⟨⟨z1, z2⟩, z3⟩ := hok
        split at z3
        · next f hf =>
          split at z3
          · next t9 ht9 =>
            simp only [Bool.and_eq_true, Bool.or_eq_true, beq_iff_eq, decide_eq_true_eq] at z3
            obtain ⟨y1, y2⟩ := z3
            have e3 := Nat.eq_of_beq_eq_true y1
            subst e3
            obtain ⟨C9, N9, hc, hl9, hin, ⟨ty0, hty, hty2⟩, hnm9⟩ := vwT_facts hf
            have hk9 : k < N9 := by rw [← hl9]; exact nth_lt ht9
            have hlk := hts _ (FLl_ok (mem_f z1))
            have hrec := hB p l e Rm s m args below meth c Q D A aC id d fx _ _ _ (_, _, _) res ad tys _ _ CE SE H (rOk_set hr) hK hcc hss hCE hSE hret
            cases hfin : (vwT ci k).2.2.2 with
            | false => exact go_putR hx hb hts hin hown hK hc hf ht9 hk9 hlk rfl ho ty0 hty hnm9 (hty2 _ _ ht9) hr hfin (okD_spec z2) hrec
            | true =>
              rcases y2 with y2 | y2
              · rw [hfin] at y2; cases y2
              · exact go_putRF hx hb hts hin hown hK hc hf ht9 hk9 hlk rfl ho ty0 hty hnm9 (hty2 _ _ ht9) hr hfin (hnm y2.2) y2.1.2 (okD_spec z2) hrec
          · cases z3
        · cases z3
      · cases H
    · exact h1 (fun id9 q => by cases q) H
  · next q1 q2 q3 q4 q5 q6 q7 q8 => exact h1 (fun id9 q => by first | exact q1 _ q | exact q2 _ q | exact q3 _ q | exact q4 _ q | exact q6 _ q | exact q7 _ q | exact q8 _ q) H
theorem sim_all {ct : Nat → List Int} (hMn : MnaR) (hC : Chk) (hct : ctOk ct) (hch : ∀ k, (k = 5 ∨ k = 6) → ∀ v ∈ ct k, 0 ≤ v ∧ v < 128) : ∀ n, SimB ct n := by
  intro n
  induction n with
  | zero =>
    intro p l e Rm s m args below meth c Q D A aC id d fx j ls st g res ad tys cells slots CE SE H
    cases H
  | succ n ih => exact simB_step hMn hC hct hch ih (simM_of hC ih)
