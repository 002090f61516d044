/-! THE JDK'S OWN: length() and charAt() of a constant text -/
def N0 : Nat → Prop := fun _ => False
abbrev rm1 (k : Nat) : Room := { frames := k, cells := 0, slots := 0, locals := 64 * k }
def wJ (y : MethodName) (b : ByteArray) (n : Nat) (r : Option FieldType) : List Cond := .code y b n r :: lw_g
theorem wJ_good {y : MethodName} {b : ByteArray} {n : Nat} {r : Option FieldType} (h : Cond.code y b n r ∈ lw_g) : GoodIn lw_g (wJ y b n r) := by
  intro w hw
  rcases List.mem_cons.mp hw with rfl | hw
  · exact ⟨h, good_of_word (g_good h)⟩
  · exact ⟨hw, good_of_word (g_good hw)⟩
theorem cd_J3 : Cond.code yJ3_checkIndex_8e157 cJ3_checkIndex_8e157 3 (some .int) ∈ lw_g := mem_g (by decide +kernel) rfl
theorem cd_ci : Cond.code yJ0_checkIndex_df160 cJ0_checkIndex_df160 2 none ∈ lw_g := mem_g (by decide +kernel) rfl
theorem cd_l1 : Cond.code yJ1_charAt_3b067 cJ1_charAt_3b067 2 (some .char) ∈ lw_g := mem_g (by decide +kernel) rfl
theorem cd_ca : Cond.code yJ0_charAt_5068e cJ0_charAt_5068e 2 (some .char) ∈ lw_g := mem_g (by decide +kernel) rfl
theorem cd_le : Cond.code yJ0_length_8abf5 cJ0_length_8abf5 1 (some .int) ∈ lw_g := mem_g (by decide +kernel) rfl
theorem cd_co : Cond.code yJ0_coder_7d493 cJ0_coder_7d493 1 (some .byte) ∈ lw_g := mem_g (by decide +kernel) rfl
theorem cd_il : Cond.code yJ0_isLatin1_aae02 cJ0_isLatin1_aae02 1 (some .boolean) ∈ lw_g := mem_g (by decide +kernel) rfl
theorem ji_0 : Cond.initialized RJ0 ∈ lw_g := mem_g (by decide +kernel) rfl
theorem ji_1 : Cond.initialized RJ1 ∈ lw_g := mem_g (by decide +kernel) rfl
theorem ji_3 : Cond.initialized RJ3 ∈ lw_g := mem_g (by decide +kernel) rfl
theorem jf_cs : Cond.fieldLink RJ0 38 "java/lang/String" "COMPACT_STRINGS" "Z" ∈ lw_g := mem_g (by decide +kernel) rfl
theorem jf_co : Cond.fieldLink RJ0 15 "java/lang/String" "coder" "B" ∈ lw_g := mem_g (by decide +kernel) rfl
theorem jf_va : Cond.fieldLink RJ0 9 "java/lang/String" "value" "[B" ∈ lw_g := mem_g (by decide +kernel) rfl
theorem jf_si : Cond.fieldLink RJ0 1053 "jdk/internal/util/Preconditions" "SIOOBE_FORMATTER" "Ljava/util/function/BiFunction;" ∈ lw_g := mem_g (by decide +kernel) rfl
theorem jm_ck : Cond.methodLink RJ0 1059 yJ3_checkIndex_8e157 ∈ lw_g := mem_g (by decide +kernel) rfl
theorem jm_ci : Cond.methodLink RJ1 9 yJ0_checkIndex_df160 ∈ lw_g := mem_g (by decide +kernel) rfl
theorem jm_l1 : Cond.methodLink RJ0 495 yJ1_charAt_3b067 ∈ lw_g := mem_g (by decide +kernel) rfl
theorem jm_il : Cond.methodLink RJ0 492 yJ0_isLatin1_aae02 ∈ lw_g := mem_g (by decide +kernel) rfl
theorem jm_co : Cond.methodLink RJ0 335 yJ0_coder_7d493 ∈ lw_g := mem_g (by decide +kernel) rfl
theorem js_ck : Cond.static yJ3_checkIndex_8e157 ∈ lw_g := mem_g (by decide +kernel) rfl
theorem js_ci : Cond.static yJ0_checkIndex_df160 ∈ lw_g := mem_g (by decide +kernel) rfl
theorem js_l1 : Cond.static yJ1_charAt_3b067 ∈ lw_g := mem_g (by decide +kernel) rfl
theorem jn_il : Cond.instanceMethod yJ0_isLatin1_aae02 ∈ lw_g := mem_g (by decide +kernel) rfl
theorem jn_co : Cond.instanceMethod yJ0_coder_7d493 ∈ lw_g := mem_g (by decide +kernel) rfl
theorem jn_ca : Cond.instanceMethod yJ0_charAt_5068e ∈ lw_g := mem_g (by decide +kernel) rfl
theorem jn_le : Cond.instanceMethod yJ0_length_8abf5 ∈ lw_g := mem_g (by decide +kernel) rfl
theorem jx_il : Cond.selects RJ0 yJ0_isLatin1_aae02 yJ0_isLatin1_aae02 ∈ lw_g := mem_g (by decide +kernel) rfl
theorem jx_co : Cond.selects RJ0 yJ0_coder_7d493 yJ0_coder_7d493 ∈ lw_g := mem_g (by decide +kernel) rfl
theorem jx_ca : Cond.selects RJ0 yJ0_charAt_5068e yJ0_charAt_5068e ∈ lw_g := mem_g (by decide +kernel) rfl
theorem jx_le : Cond.selects RJ0 yJ0_length_8abf5 yJ0_length_8abf5 ∈ lw_g := mem_g (by decide +kernel) rfl
theorem dJ_ck_0 : decode cJ3_checkIndex_8e157 0 = .ok (.iload_n 0, 1) := by decide +kernel
theorem dJ_ck_1 : decode cJ3_checkIndex_8e157 1 = .ok (.ifCond .lt 8, 3) := by decide +kernel
theorem dJ_ck_4 : decode cJ3_checkIndex_8e157 4 = .ok (.iload_n 0, 1) := by decide +kernel
theorem dJ_ck_5 : decode cJ3_checkIndex_8e157 5 = .ok (.iload_n 1, 1) := by decide +kernel
theorem dJ_ck_6 : decode cJ3_checkIndex_8e157 6 = .ok (.if_icmp .lt 10, 3) := by decide +kernel
theorem dJ_ck_16 : decode cJ3_checkIndex_8e157 16 = .ok (.iload_n 0, 1) := by decide +kernel
theorem dJ_ck_17 : decode cJ3_checkIndex_8e157 17 = .ok (.ireturn, 1) := by decide +kernel
theorem dJ_ci_0 : decode cJ0_checkIndex_df160 0 = .ok (.iload_n 0, 1) := by decide +kernel
theorem dJ_ci_1 : decode cJ0_checkIndex_df160 1 = .ok (.iload_n 1, 1) := by decide +kernel
theorem dJ_ci_2 : decode cJ0_checkIndex_df160 2 = .ok (.getstatic 1053, 3) := by decide +kernel
theorem dJ_ci_5 : decode cJ0_checkIndex_df160 5 = .ok (.invokestatic 1059, 3) := by decide +kernel
theorem dJ_ci_8 : decode cJ0_checkIndex_df160 8 = .ok (.pop, 1) := by decide +kernel
theorem dJ_ci_9 : decode cJ0_checkIndex_df160 9 = .ok (.return_, 1) := by decide +kernel
theorem dJ_l1_0 : decode cJ1_charAt_3b067 0 = .ok (.iload_n 1, 1) := by decide +kernel
theorem dJ_l1_1 : decode cJ1_charAt_3b067 1 = .ok (.aload_n 0, 1) := by decide +kernel
theorem dJ_l1_2 : decode cJ1_charAt_3b067 2 = .ok (.arraylength, 1) := by decide +kernel
theorem dJ_l1_3 : decode cJ1_charAt_3b067 3 = .ok (.invokestatic 9, 3) := by decide +kernel
theorem dJ_l1_6 : decode cJ1_charAt_3b067 6 = .ok (.aload_n 0, 1) := by decide +kernel
theorem dJ_l1_7 : decode cJ1_charAt_3b067 7 = .ok (.iload_n 1, 1) := by decide +kernel
theorem dJ_l1_8 : decode cJ1_charAt_3b067 8 = .ok (.baload, 1) := by decide +kernel
theorem dJ_l1_9 : decode cJ1_charAt_3b067 9 = .ok (.sipush 255, 3) := by decide +kernel
theorem dJ_l1_12 : decode cJ1_charAt_3b067 12 = .ok (.iand, 1) := by decide +kernel
theorem dJ_l1_13 : decode cJ1_charAt_3b067 13 = .ok (.i2c, 1) := by decide +kernel
theorem dJ_l1_14 : decode cJ1_charAt_3b067 14 = .ok (.ireturn, 1) := by decide +kernel
theorem dJ_ca_0 : decode cJ0_charAt_5068e 0 = .ok (.aload_n 0, 1) := by decide +kernel
theorem dJ_ca_1 : decode cJ0_charAt_5068e 1 = .ok (.invokevirtual 492, 3) := by decide +kernel
theorem dJ_ca_4 : decode cJ0_charAt_5068e 4 = .ok (.ifCond .eq 12, 3) := by decide +kernel
theorem dJ_ca_7 : decode cJ0_charAt_5068e 7 = .ok (.aload_n 0, 1) := by decide +kernel
theorem dJ_ca_8 : decode cJ0_charAt_5068e 8 = .ok (.getfield 9, 3) := by decide +kernel
theorem dJ_ca_11 : decode cJ0_charAt_5068e 11 = .ok (.iload_n 1, 1) := by decide +kernel
theorem dJ_ca_12 : decode cJ0_charAt_5068e 12 = .ok (.invokestatic 495, 3) := by decide +kernel
theorem dJ_ca_15 : decode cJ0_charAt_5068e 15 = .ok (.ireturn, 1) := by decide +kernel
theorem dJ_co_0 : decode cJ0_coder_7d493 0 = .ok (.getstatic 38, 3) := by decide +kernel
theorem dJ_co_3 : decode cJ0_coder_7d493 3 = .ok (.ifCond .eq 10, 3) := by decide +kernel
theorem dJ_co_6 : decode cJ0_coder_7d493 6 = .ok (.aload_n 0, 1) := by decide +kernel
theorem dJ_co_7 : decode cJ0_coder_7d493 7 = .ok (.getfield 15, 3) := by decide +kernel
theorem dJ_co_10 : decode cJ0_coder_7d493 10 = .ok (.goto 4, 3) := by decide +kernel
theorem dJ_co_14 : decode cJ0_coder_7d493 14 = .ok (.ireturn, 1) := by decide +kernel
theorem dJ_il_0 : decode cJ0_isLatin1_aae02 0 = .ok (.getstatic 38, 3) := by decide +kernel
theorem dJ_il_3 : decode cJ0_isLatin1_aae02 3 = .ok (.ifCond .eq 14, 3) := by decide +kernel
theorem dJ_il_6 : decode cJ0_isLatin1_aae02 6 = .ok (.aload_n 0, 1) := by decide +kernel
theorem dJ_il_7 : decode cJ0_isLatin1_aae02 7 = .ok (.getfield 15, 3) := by decide +kernel
theorem dJ_il_10 : decode cJ0_isLatin1_aae02 10 = .ok (.ifCond .ne 7, 3) := by decide +kernel
theorem dJ_il_13 : decode cJ0_isLatin1_aae02 13 = .ok (.iconst 1, 1) := by decide +kernel
theorem dJ_il_14 : decode cJ0_isLatin1_aae02 14 = .ok (.goto 4, 3) := by decide +kernel
theorem dJ_il_18 : decode cJ0_isLatin1_aae02 18 = .ok (.ireturn, 1) := by decide +kernel
theorem dJ_le_0 : decode cJ0_length_8abf5 0 = .ok (.aload_n 0, 1) := by decide +kernel
theorem dJ_le_1 : decode cJ0_length_8abf5 1 = .ok (.getfield 9, 3) := by decide +kernel
theorem dJ_le_4 : decode cJ0_length_8abf5 4 = .ok (.arraylength, 1) := by decide +kernel
theorem dJ_le_5 : decode cJ0_length_8abf5 5 = .ok (.aload_n 0, 1) := by decide +kernel
theorem dJ_le_6 : decode cJ0_length_8abf5 6 = .ok (.invokevirtual 335, 3) := by decide +kernel
theorem dJ_le_9 : decode cJ0_length_8abf5 9 = .ok (.ishr, 1) := by decide +kernel
theorem dJ_le_10 : decode cJ0_length_8abf5 10 = .ok (.ireturn, 1) := by decide +kernel
def TxS (len : List Nat) (byt : List (List Int32)) (adK adV : Nat → Nat) (U : State) : Prop := vk_S 2 len byt adK adV N0 U U.heap ∧ va_Z "java/lang/String" "COMPACT_STRINGS" "Z" (.int 1) N0 U U.heap ∧ va_Zq "jdk/internal/util/Preconditions" "SIOOBE_FORMATTER" "Ljava/util/function/BiFunction;" N0 U U.heap
theorem TxS.to {len : List Nat} {byt : List (List Int32)} {adK adV : Nat → Nat} {s U : State} {H : Heap} {locs : List Loc} (h : TxS len byt adK adV s) (hvm : s.vm.Alike U.vm) (hS : va_S N0 s.heap H locs) (hU : U.heap = H) : TxS len byt adK adV U := by
  have hq : ∀ a : Nat, a < s.heap.size → ¬ N0 a → H[a]? = s.heap[a]? := fun a h1 h2 => hS.2.1 a h1 h2
  unfold TxS
  rw [hU]
  exact ⟨(h.1.kept hq).moved hvm, (h.2.1.kept hq).moved hvm, (h.2.2.kept hq).moved hvm⟩
theorem TxS.blind {len : List Nat} {byt : List (List Int32)} {adK adV : Nat → Nat} {av : List Value} : FrameBlind (va_Pc av (TxS len byt adK adV)) := by
  intro a U g mk q
  obtain ⟨q0, q1, q2, q3⟩ := q
  have hal : U.vm.Alike (U.calling g mk a).vm := Vm.Alike.refl U.vm
  exact ⟨q0, vk_S.moved hal q1, va_Z.moved hal q2, va_Zq.moved hal q3⟩
theorem v_ref1 {v : Value} (h : v = .null ∨ ∃ t : Nat, v = .ref t) : v.category = 1 := by rcases h with rfl | ⟨t, rfl⟩ <;> rfl
theorem c_ck (l : Launch) (i n : Int32) (v : Value) (hv0 : v = .null ∨ ∃ t : Nat, v = .ref t) (h0 : ¬ i < 0) (h1 : i < n) : Met l yJ3_checkIndex_8e157 (wJ yJ3_checkIndex_8e157 cJ3_checkIndex_8e157 3 (some .int)) (rm1 0) (va_Pc [.int i, .int n, v] (fun _ => True)) (va_Qi (fun r (_ : Unit) => r = i) (fun _ _ => True) N0) 0 0 N0 := by
  refine Met.ofW (cc := cJ3_checkIndex_8e157) (maxL := 3) (ret := (some .int)) (by decide) rfl ?_
  intro p e s m args below meth c s₁ B hml hv
  obtain ⟨rfl, hT⟩ := hv
  have hx := B.exec
  have hb := B.bytes
  have hr := B.returns
  have hts := atoms_spec (ws := wJ yJ3_checkIndex_8e157 cJ3_checkIndex_8e157 3 (some .int)) B.pre
  have htg : ∀ w ∈ lw_g, w.before _ s = true := fun w hw => hts w (List.mem_cons_of_mem _ hw)
  have hown : s.vm.findClass RJ3 = some m.cls := findClass_of_methodNamed B.named
  have hlocks := B.notSynchronized
  have hS : va_S N0 s.heap s.heap [] := va_S.rf
  have hl := lv_entry ([.int i, .int n, v]) (n := 3) (by rcases hv0 with rfl | ⟨t, rfl⟩ <;> exact Nat.le_of_ble_eq_true rfl)
  rw [lg_entry_eq]
  generalize (lg_sl ([.int i, .int n, v]) ++ List.replicate (3 - (lg_sl ([.int i, .int n, v])).length) Slot.unset).toArray = ls at hl ⊢
  have hl : lv_has ls 3 [(0, .int i), (1, .int n), (2, v)] := hl
  refine lv_iload_n hx hb dJ_ck_0 rfl (lv_at hl 0 rfl) ?_
  refine lv_if_lt (tgt := 9) hx hb dJ_ck_1 (by decide) (fun q => absurd q h0) (fun _ => ?_)
  refine lv_iload_n hx hb dJ_ck_4 rfl (lv_at hl 0 rfl) ?_
  refine lv_iload_n hx hb dJ_ck_5 rfl (lv_at hl 1 rfl) ?_
  refine lv_icmp_lt (tgt := 16) hx hb dJ_ck_6 (by decide) (fun _ => ?_) (fun q => absurd h1 q)
  refine lv_iload_n hx hb dJ_ck_16 rfl (lv_at hl 0 rfl) ?_
  exact W.iret (v := i) hx hb hr (fun t ht hW => ⟨⟨i, (), rfl, rfl, trivial⟩, hS.F ht⟩) hS.2.2 dJ_ck_17
theorem c_ci (l : Launch) (len : List Nat) (byt : List (List Int32)) (adK adV : Nat → Nat) (i n : Int32) (h0 : ¬ i < 0) (h1 : i < n) : Met l yJ0_checkIndex_df160 (wJ yJ0_checkIndex_df160 cJ0_checkIndex_df160 2 none) (rm1 1) (va_Pc [.int i, .int n] (TxS len byt adK adV)) (va_Qv (fun (_ : Unit) => True) (fun _ _ => True) N0) 0 0 N0 := by
  refine Met.ofW (cc := cJ0_checkIndex_df160) (maxL := 2) (ret := none) (by decide) rfl ?_
  intro p e s m args below meth c s₁ B hml hv
  obtain ⟨rfl, hT⟩ := hv
  have hx := B.exec
  have hb := B.bytes
  have hr := B.returns
  have hts := atoms_spec (ws := wJ yJ0_checkIndex_df160 cJ0_checkIndex_df160 2 none) B.pre
  have htg : ∀ w ∈ lw_g, w.before _ s = true := fun w hw => hts w (List.mem_cons_of_mem _ hw)
  have hown : s.vm.findClass RJ0 = some m.cls := findClass_of_methodNamed B.named
  have hlocks := B.notSynchronized
  have hS : va_S N0 s.heap s.heap [] := va_S.rf
  have hl := lv_entry ([.int i, .int n]) (n := 2) (Nat.le_of_ble_eq_true rfl)
  rw [lg_entry_eq]
  generalize (lg_sl ([.int i, .int n]) ++ List.replicate (2 - (lg_sl ([.int i, .int n])).length) Slot.unset).toArray = ls at hl ⊢
  have hl : lv_has ls 2 [(0, .int i), (1, .int n)] := hl
  refine lv_iload_n hx hb dJ_ci_0 rfl (lv_at hl 0 rfl) ?_
  refine lv_iload_n hx hb dJ_ci_1 rfl (lv_at hl 1 rfl) ?_
  obtain ⟨v, hv0, hZ⟩ : ∃ v : Value, (v = .null ∨ ∃ t : Nat, v = .ref t) ∧ va_Z "jdk/internal/util/Preconditions" "SIOOBE_FORMATTER" "Ljava/util/function/BiFunction;" v N0 s s.heap := by
    rcases hT.2.2 with h | ⟨t, h⟩
    · exact ⟨_, Or.inl rfl, h⟩
    · exact ⟨_, Or.inr ⟨t, rfl⟩, h⟩
  refine va_gets hx hb hZ hS hown (htg _ jf_si) (fun x q => q) dJ_ci_2 ?_
  refine va_calli (va_runS (As := [.int i, .int n, v]) (rest := []) ⟨hx, hb, hml, hown, htg⟩ (c_ck l i n v hv0 h0 h1) ⟨callB_of 3 htg (wJ_good cd_J3) rfl rfl rfl (htg _ ji_3) (htg _ jm_ck) ⟨by decide, by decide, by decide +kernel⟩ ⟨Nat.le_of_ble_eq_true rfl, Nat.le_of_ble_eq_true rfl⟩, htg _ js_ck⟩ ⟨fun a U g mk q => q, fun U hU hW => ⟨rfl, trivial⟩⟩ rfl rfl hl.1 rfl (lv_room (Nat.le_of_ble_eq_true rfl)) dJ_ci_5 ⟨Nat.zero_le _, Nat.zero_le _⟩) hS (fun q _ h => h.elim) (fun q h => h.elim) (fun r u t H1 locs1 ht hvm hw hB hz hk hS => ?_)
  refine lv_pop hx hb dJ_ci_8 rfl ?_
  exact W.vret hx hb hr (fun t ht hW => ⟨⟨(), rfl, trivial, trivial⟩, hS.F ht⟩) hS.2.2 dJ_ci_9
theorem c_l1 (l : Launch) (len : List Nat) (byt : List (List Int32)) (adK adV : Nat → Nat) (i : Nat) (hi : i < 2) (k w : Int32) (h0 : ¬ k < 0) (h1 : k < Int32.ofNat (len.getD i 0)) (hin : vp_in k (len.getD i 0)) (hw : ((((byt.getD i []).getD k.toNatClampNeg 0) &&& 255).toUInt32 % 65536).toInt32 = w) (hn : narrow .char (.int w) = .int w) : Met l yJ1_charAt_3b067 (wJ yJ1_charAt_3b067 cJ1_charAt_3b067 2 (some .char)) (rm1 2) (va_Pc [.ref (adV i), .int k] (TxS len byt adK adV)) (va_Qi (fun r (_ : Unit) => r = w) (fun _ _ => True) N0) 0 0 N0 := by
  refine Met.ofW (cc := cJ1_charAt_3b067) (maxL := 2) (ret := (some .char)) (by decide) rfl ?_
  intro p e s m args below meth c s₁ B hml hv
  obtain ⟨rfl, hT⟩ := hv
  have hx := B.exec
  have hb := B.bytes
  have hr := B.returns
  have hts := atoms_spec (ws := wJ yJ1_charAt_3b067 cJ1_charAt_3b067 2 (some .char)) B.pre
  have htg : ∀ w ∈ lw_g, w.before _ s = true := fun w hw => hts w (List.mem_cons_of_mem _ hw)
  have hown : s.vm.findClass RJ1 = some m.cls := findClass_of_methodNamed B.named
  have hlocks := B.notSynchronized
  have hS : va_S N0 s.heap s.heap [] := va_S.rf
  have hl := lv_entry ([.ref (adV i), .int k]) (n := 2) (Nat.le_of_ble_eq_true rfl)
  rw [lg_entry_eq]
  generalize (lg_sl ([.ref (adV i), .int k]) ++ List.replicate (2 - (lg_sl ([.ref (adV i), .int k])).length) Slot.unset).toArray = ls at hl ⊢
  have hl : lv_has ls 2 [(0, .ref (adV i)), (1, .int k)] := hl
  have hA := (hT.1.1 i hi).2.2.2
  refine lv_iload_n hx hb dJ_l1_0 rfl (lv_at hl 1 rfl) ?_
  refine lv_aload_n hx hb dJ_l1_1 rfl (lv_at hl 0 rfl) ?_
  refine va_tlen hx hb hA hS rfl dJ_l1_2 ?_
  refine va_callv (va_runS (As := [.int k, .int (Int32.ofNat (len.getD i 0))]) (rest := []) ⟨hx, hb, hml, hown, htg⟩ (c_ci l len byt adK adV k (Int32.ofNat (len.getD i 0)) h0 h1) ⟨callB_of 2 htg (wJ_good cd_ci) rfl rfl rfl (htg _ ji_0) (htg _ jm_ci) ⟨by decide, by decide, by decide +kernel⟩ ⟨Nat.le_of_ble_eq_true rfl, Nat.le_of_ble_eq_true rfl⟩, htg _ js_ci⟩ ⟨TxS.blind, fun U hU hW => ⟨rfl, hT.to hW.alike hS hU⟩⟩ rfl rfl hl.1 rfl (lv_room (Nat.le_of_ble_eq_true rfl)) dJ_l1_3 ⟨Nat.zero_le _, Nat.zero_le _⟩) hS (fun q _ h => h.elim) (fun q h => h.elim) (fun u t H1 locs1 ht hvm hw9 hB hz hk hS => ?_)
  refine lv_aload_n hx hb dJ_l1_6 rfl (lv_at hl 0 rfl) ?_
  refine lv_iload_n hx hb dJ_l1_7 rfl (lv_at hl 1 rfl) ?_
  refine va_tb hx hb hA hS hin rfl dJ_l1_8 ?_
  refine lv_sipush (v := 255) hx hb dJ_l1_9 (by decide) ?_
  refine lv_iand hx hb dJ_l1_12 ?_
  refine lv_i2c (v := w) hx hb dJ_l1_13 hw ?_
  exact W.zret (v := w) hx hb hr hn (fun t ht hW => ⟨⟨w, (), rfl, rfl, trivial⟩, hS.F ht⟩) hS.2.2 dJ_l1_14
theorem c_il (l : Launch) (len : List Nat) (byt : List (List Int32)) (adK adV : Nat → Nat) (i : Nat) (hi : i < 2) : Met l yJ0_isLatin1_aae02 (wJ yJ0_isLatin1_aae02 cJ0_isLatin1_aae02 1 (some .boolean)) (rm1 0) (va_Pc [.ref (adK i)] (TxS len byt adK adV)) (va_Qi (fun r (_ : Unit) => r = 1) (fun _ _ => True) N0) 0 0 N0 := by
  refine Met.ofW (cc := cJ0_isLatin1_aae02) (maxL := 1) (ret := (some .boolean)) (by decide) rfl ?_
  intro p e s m args below meth c s₁ B hml hv
  obtain ⟨rfl, hT⟩ := hv
  have hx := B.exec
  have hb := B.bytes
  have hr := B.returns
  have hts := atoms_spec (ws := wJ yJ0_isLatin1_aae02 cJ0_isLatin1_aae02 1 (some .boolean)) B.pre
  have htg : ∀ w ∈ lw_g, w.before _ s = true := fun w hw => hts w (List.mem_cons_of_mem _ hw)
  have hown : s.vm.findClass RJ0 = some m.cls := findClass_of_methodNamed B.named
  have hlocks := B.notSynchronized
  have hS : va_S N0 s.heap s.heap [] := va_S.rf
  have hl := lv_entry ([.ref (adK i)]) (n := 1) (Nat.le_of_ble_eq_true rfl)
  rw [lg_entry_eq]
  generalize (lg_sl ([.ref (adK i)]) ++ List.replicate (1 - (lg_sl ([.ref (adK i)])).length) Slot.unset).toArray = ls at hl ⊢
  have hl : lv_has ls 1 [(0, .ref (adK i))] := hl
  have hC := (hT.1.1 i hi).2.1
  refine va_gets hx hb hT.2.1 hS hown (htg _ jf_cs) (fun x q => q) dJ_il_0 ?_
  refine lv_if_eq (tgt := 17) hx hb dJ_il_3 (by decide) (fun q => absurd q (by decide)) (fun _ => ?_)
  refine lv_aload_n hx hb dJ_il_6 rfl (lv_at hl 0 rfl) ?_
  refine vk_getf hx hb hC hS hown (htg _ jf_co) (fun x q => q) dJ_il_7 ?_
  refine lv_if_ne (tgt := 17) hx hb dJ_il_10 (by decide) (fun q => absurd rfl q) (fun _ => ?_)
  refine lv_iconst (v := 1) hx hb dJ_il_13 (by decide) ?_
  refine lv_goto (tgt := 18) hx hb dJ_il_14 (by decide) ?_
  exact W.zret (v := 1) hx hb hr rfl (fun t ht hW => ⟨⟨1, (), rfl, rfl, trivial⟩, hS.F ht⟩) hS.2.2 dJ_il_18
theorem c_co (l : Launch) (len : List Nat) (byt : List (List Int32)) (adK adV : Nat → Nat) (i : Nat) (hi : i < 2) : Met l yJ0_coder_7d493 (wJ yJ0_coder_7d493 cJ0_coder_7d493 1 (some .byte)) (rm1 0) (va_Pc [.ref (adK i)] (TxS len byt adK adV)) (va_Qi (fun r (_ : Unit) => r = 0) (fun _ _ => True) N0) 0 0 N0 := by
  refine Met.ofW (cc := cJ0_coder_7d493) (maxL := 1) (ret := (some .byte)) (by decide) rfl ?_
  intro p e s m args below meth c s₁ B hml hv
  obtain ⟨rfl, hT⟩ := hv
  have hx := B.exec
  have hb := B.bytes
  have hr := B.returns
  have hts := atoms_spec (ws := wJ yJ0_coder_7d493 cJ0_coder_7d493 1 (some .byte)) B.pre
  have htg : ∀ w ∈ lw_g, w.before _ s = true := fun w hw => hts w (List.mem_cons_of_mem _ hw)
  have hown : s.vm.findClass RJ0 = some m.cls := findClass_of_methodNamed B.named
  have hlocks := B.notSynchronized
  have hS : va_S N0 s.heap s.heap [] := va_S.rf
  have hl := lv_entry ([.ref (adK i)]) (n := 1) (Nat.le_of_ble_eq_true rfl)
  rw [lg_entry_eq]
  generalize (lg_sl ([.ref (adK i)]) ++ List.replicate (1 - (lg_sl ([.ref (adK i)])).length) Slot.unset).toArray = ls at hl ⊢
  have hl : lv_has ls 1 [(0, .ref (adK i))] := hl
  have hC := (hT.1.1 i hi).2.1
  refine va_gets hx hb hT.2.1 hS hown (htg _ jf_cs) (fun x q => q) dJ_co_0 ?_
  refine lv_if_eq (tgt := 13) hx hb dJ_co_3 (by decide) (fun q => absurd q (by decide)) (fun _ => ?_)
  refine lv_aload_n hx hb dJ_co_6 rfl (lv_at hl 0 rfl) ?_
  refine vk_getf hx hb hC hS hown (htg _ jf_co) (fun x q => q) dJ_co_7 ?_
  refine lv_goto (tgt := 14) hx hb dJ_co_10 (by decide) ?_
  exact W.zret (v := 0) hx hb hr rfl (fun t ht hW => ⟨⟨0, (), rfl, rfl, trivial⟩, hS.F ht⟩) hS.2.2 dJ_co_14
theorem c_len (l : Launch) (len : List Nat) (byt : List (List Int32)) (adK adV : Nat → Nat) (i : Nat) (hi : i < 2) : Met l yJ0_length_8abf5 (wJ yJ0_length_8abf5 cJ0_length_8abf5 1 (some .int)) (rm1 1) (va_Pc [.ref (adK i)] (TxS len byt adK adV)) (va_Qi (fun r (_ : Unit) => r = Int32.ofNat (len.getD i 0)) (fun _ _ => True) N0) 0 0 N0 := by
  refine Met.ofW (cc := cJ0_length_8abf5) (maxL := 1) (ret := (some .int)) (by decide) rfl ?_
  intro p e s m args below meth c s₁ B hml hv
  obtain ⟨rfl, hT⟩ := hv
  have hx := B.exec
  have hb := B.bytes
  have hr := B.returns
  have hts := atoms_spec (ws := wJ yJ0_length_8abf5 cJ0_length_8abf5 1 (some .int)) B.pre
  have htg : ∀ w ∈ lw_g, w.before _ s = true := fun w hw => hts w (List.mem_cons_of_mem _ hw)
  have hown : s.vm.findClass RJ0 = some m.cls := findClass_of_methodNamed B.named
  have hlocks := B.notSynchronized
  have hS : va_S N0 s.heap s.heap [] := va_S.rf
  have hl := lv_entry ([.ref (adK i)]) (n := 1) (Nat.le_of_ble_eq_true rfl)
  rw [lg_entry_eq]
  generalize (lg_sl ([.ref (adK i)]) ++ List.replicate (1 - (lg_sl ([.ref (adK i)])).length) Slot.unset).toArray = ls at hl ⊢
  have hl : lv_has ls 1 [(0, .ref (adK i))] := hl
  have hV := (hT.1.1 i hi).2.2.1
  have hA := (hT.1.1 i hi).2.2.2
  refine lv_aload_n hx hb dJ_le_0 rfl (lv_at hl 0 rfl) ?_
  refine vk_getf hx hb hV hS hown (htg _ jf_va) (fun x q => q) dJ_le_1 ?_
  refine va_tlen hx hb hA hS rfl dJ_le_4 ?_
  refine lv_aload_n hx hb dJ_le_5 rfl (lv_at hl 0 rfl) ?_
  refine va_calli (va_runV (As := []) (rest := [.int (Int32.ofNat (len.getD i 0))]) ⟨hx, hb, hml, hown, htg⟩ (c_co l len byt adK adV i hi) ⟨callB_of 0 htg (wJ_good cd_co) rfl rfl rfl (htg _ ji_0) (htg _ jm_co) ⟨by decide, by decide, by decide +kernel⟩ ⟨Nat.le_of_ble_eq_true rfl, Nat.le_of_ble_eq_true rfl⟩, htg _ jn_co, htg _ jx_co⟩ ⟨TxS.blind, vk_recv hT.1 hi hS, fun U hU hW => ⟨rfl, hT.to hW.alike hS hU⟩⟩ rfl rfl hl.1 rfl (lv_room (Nat.le_of_ble_eq_true rfl)) dJ_le_6 ⟨Nat.zero_le _, Nat.zero_le _⟩) hS (fun q _ h => h.elim) (fun q h => h.elim) (fun r u t H1 locs1 ht hvm hw hB hz hk hS => ?_)
  subst hw
  refine lv_ishr hx hb dJ_le_9 ?_
  refine lv_topi (fun f ef => ?_)
  exact W.iret (v := f) hx hb hr (fun t ht hW => ⟨⟨f, (), rfl, by rw [ef]; simp, trivial⟩, hS.F ht⟩) hS.2.2 dJ_le_10
theorem c_chr (l : Launch) (len : List Nat) (byt : List (List Int32)) (adK adV : Nat → Nat) (i : Nat) (hi : i < 2) (k w : Int32) (h0 : ¬ k < 0) (h1 : k < Int32.ofNat (len.getD i 0)) (hin : vp_in k (len.getD i 0)) (hw : ((((byt.getD i []).getD k.toNatClampNeg 0) &&& 255).toUInt32 % 65536).toInt32 = w) (hn : narrow .char (.int w) = .int w) : Met l yJ0_charAt_5068e (wJ yJ0_charAt_5068e cJ0_charAt_5068e 2 (some .char)) (rm1 3) (va_Pc [.ref (adK i), .int k] (TxS len byt adK adV)) (va_Qi (fun r (_ : Unit) => r = w) (fun _ _ => True) N0) 0 0 N0 := by
  refine Met.ofW (cc := cJ0_charAt_5068e) (maxL := 2) (ret := (some .char)) (by decide) rfl ?_
  intro p e s m args below meth c s₁ B hml hv
  obtain ⟨rfl, hT⟩ := hv
  have hx := B.exec
  have hb := B.bytes
  have hr := B.returns
  have hts := atoms_spec (ws := wJ yJ0_charAt_5068e cJ0_charAt_5068e 2 (some .char)) B.pre
  have htg : ∀ w ∈ lw_g, w.before _ s = true := fun w hw => hts w (List.mem_cons_of_mem _ hw)
  have hown : s.vm.findClass RJ0 = some m.cls := findClass_of_methodNamed B.named
  have hlocks := B.notSynchronized
  have hS : va_S N0 s.heap s.heap [] := va_S.rf
  have hl := lv_entry ([.ref (adK i), .int k]) (n := 2) (Nat.le_of_ble_eq_true rfl)
  rw [lg_entry_eq]
  generalize (lg_sl ([.ref (adK i), .int k]) ++ List.replicate (2 - (lg_sl ([.ref (adK i), .int k])).length) Slot.unset).toArray = ls at hl ⊢
  have hl : lv_has ls 2 [(0, .ref (adK i)), (1, .int k)] := hl
  have hV := (hT.1.1 i hi).2.2.1
  refine lv_aload_n hx hb dJ_ca_0 rfl (lv_at hl 0 rfl) ?_
  refine va_calli (va_runV (As := []) (rest := []) ⟨hx, hb, hml, hown, htg⟩ (c_il l len byt adK adV i hi) ⟨callB_of 0 htg (wJ_good cd_il) rfl rfl rfl (htg _ ji_0) (htg _ jm_il) ⟨by decide, by decide, by decide +kernel⟩ ⟨Nat.le_of_ble_eq_true rfl, Nat.le_of_ble_eq_true rfl⟩, htg _ jn_il, htg _ jx_il⟩ ⟨TxS.blind, vk_recv hT.1 hi hS, fun U hU hW => ⟨rfl, hT.to hW.alike hS hU⟩⟩ rfl rfl hl.1 rfl (lv_room (Nat.le_of_ble_eq_true rfl)) dJ_ca_1 ⟨Nat.zero_le _, Nat.zero_le _⟩) hS (fun q _ h => h.elim) (fun q h => h.elim) (fun r u t H1 locs1 ht hvm hw9 hB hz hk hS => ?_)
  subst hw9
  refine lv_if_eq (tgt := 16) hx hb dJ_ca_4 (by decide) (fun q => absurd q (by decide)) (fun _ => ?_)
  refine lv_aload_n hx hb dJ_ca_7 rfl (lv_at hl 0 rfl) ?_
  refine vk_getf hx hb hV hS hown (htg _ jf_va) (fun x q => q) dJ_ca_8 ?_
  refine lv_iload_n hx hb dJ_ca_11 rfl (lv_at hl 1 rfl) ?_
  refine va_calli (va_runS (As := [.ref (adV i), .int k]) (rest := []) ⟨hx, hb, hml, hown, htg⟩ (c_l1 l len byt adK adV i hi k w h0 h1 hin hw hn) ⟨callB_of 2 htg (wJ_good cd_l1) rfl rfl rfl (htg _ ji_1) (htg _ jm_l1) ⟨by decide, by decide, by decide +kernel⟩ ⟨Nat.le_of_ble_eq_true rfl, Nat.le_of_ble_eq_true rfl⟩, htg _ js_l1⟩ ⟨TxS.blind, fun U hU hW => ⟨rfl, hT.to hW.alike hS hU⟩⟩ rfl rfl hl.1 rfl (lv_room (Nat.le_of_ble_eq_true rfl)) dJ_ca_12 ⟨Nat.zero_le _, Nat.zero_le _⟩) hS (fun q _ h => h.elim) (fun q h => h.elim) (fun r u t H1 locs1 ht hvm hw9 hB hz hk hS => ?_)
  subst hw9
  exact W.zret (v := r) hx hb hr hn (fun t ht hW => ⟨⟨r, (), rfl, rfl, trivial⟩, hS.F ht⟩) hS.2.2 dJ_ca_15
theorem TxS.of {ct : Nat → List Int} {A : Nat → Prop} {adK adV : Nat → Nat} {s U : State} {H : Heap} {locs : List Loc} (h1 : vk_S 2 [(ct 5).length, (ct 6).length] [(ct 5).map Int32.ofInt, (ct 6).map Int32.ofInt] adK adV A s s.heap) (h2 : va_Z "java/lang/String" "COMPACT_STRINGS" "Z" (.int 1) A s s.heap) (h3 : va_Zq "jdk/internal/util/Preconditions" "SIOOBE_FORMATTER" "Ljava/util/function/BiFunction;" A s s.heap) (hvm : s.vm.Alike U.vm) (hS : va_S A s.heap H locs) (hU : U.heap = H) : TxS [(ct 5).length, (ct 6).length] [(ct 5).map Int32.ofInt, (ct 6).map Int32.ofInt] adK adV U := by
  have hq : ∀ a : Nat, a < s.heap.size → ¬ A a → H[a]? = s.heap[a]? := fun a q1 q2 => hS.2.1 a q1 q2
  have hn : ∀ q, N0 q → A q := fun q h => h.elim
  unfold TxS
  rw [hU]
  exact ⟨((h1.kept hq).narrow hn).moved hvm, ((h2.kept hq).narrow hn).moved hvm, ((h3.kept hq).narrow hn).moved hvm⟩
theorem va_P.at_kept {D : va_G} {cl : List vw_C} {ws : va_W} {H H1 : Heap} (hP : va_P D cl ws H) (hk : ∀ q : Nat, q < H.size → ¬ N0 q → H1[q]? = H[q]?) : va_P D cl ws H1 := fun k q hq => (hP k q hq).kept (hk q.1 (hP k q hq).lt (fun z => z))
theorem getD_map {l : List Int} {n : Nat} : (l.map Int32.ofInt).getD n 0 = Int32.ofInt ((nth l n).getD 0) := by
  rw [nth_get, List.getD_eq_getElem?_getD, List.getElem?_map]
  cases l[n]? <;> rfl
theorem txt_ch : ∀ n : Fin 128, (((Int32.ofInt ((n : Nat) : Int)) &&& 255).toUInt32 % 65536).toInt32 = Int32.ofInt ((n : Nat) : Int) ∧ ((Int32.ofInt ((n : Nat) : Int)).toUInt32 % 65536).toInt32 = Int32.ofInt ((n : Nat) : Int) := by decide +kernel
theorem txt_c {v : Int} (h : 0 ≤ v ∧ v < 128) : (((Int32.ofInt v) &&& 255).toUInt32 % 65536).toInt32 = Int32.ofInt v ∧ narrow .char (.int (Int32.ofInt v)) = .int (Int32.ofInt v) := by
  have q := txt_ch ⟨v.toNat, by omega⟩
  have e : (((v.toNat : Nat)) : Int) = v := by omega
  simp only [e] at q
  refine ⟨q.1, ?_⟩
  first
    | exact congrArg Value.int q.2
    | (simp only [narrow]; exact congrArg Value.int q.2)
section
variable {p : Program} {l : Launch} {e : Env} {Rm : Room} {s : State} {m : MethodId} {args : Array Value} {below : List Frame} {meth : Method} {c : Code} {cc : ByteArray} {D : va_G} {A : Nat → Prop} {tys : List (ClassId × FieldType)} {ad aC : Nat → Nat} {nL cells slots : Nat} {Q : State → Prop} {pcs : List Nat} {S : mSh} {r : mRf} {oc : Nat} {ct : Nat → List Int}
theorem go_len (hx : p.tables.exec = Jvm.exec) (hb : c.code = cc) (hts : ∀ w ∈ lw_g, w.before args s = true) (hown : s.vm.findClass (RN oc) = some m.cls) (hml : c.maxLocals = nL) (hR : 2 ≤ Rm.frames ∧ 200 ≤ Rm.locals ∧ cells ≤ Rm.cells ∧ slots ≤ Rm.slots) (hA : Amb ct aC A s s.heap) (hct : ctOk ct) {j nx i k0 : Nat} {ls st : List mv} {h : mM} (h56 : k0 = 5 ∨ k0 = 6) (hi : (oc, i, 1) ∈ CHl) (hw8 : wds st ≤ 8) (hd : Dc cc pcs j (.invokevirtual i) 3 nx) (k : Go (fun H locs pc la sv => W p l e Rm s m args below meth c H locs cells slots Q (F0 m pc la sv)) D A tys ad aC nL s pcs S r (nx) (ls) (mI ((ct k0).length : Int) :: st) (h)) : Go (fun H locs pc la sv => W p l e Rm s m args below meth c H locs cells slots Q (F0 m pc la sv)) D A tys ad aC nL s pcs S r (j) (ls) (mC k0 :: st) (h) := by
  intro ws H locs la pc hpc hL hl hs hm hw hP hD hS hv
  obtain ⟨pc0, h1, hdg, h2⟩ := hd
  cases hpc.symm.trans h1
  obtain ⟨-, -, -, -, -, -, -, -, ⟨adK, adV, hE, e5, e6⟩, hZ, hZq⟩ := hA
  have hlk : (Cond.methodLink (RN oc) i yJ0_length_8abf5).before args s = true := hts _ (CHl_ok hi)
  have hrest : ((st.map (rV ad aC)).map fun v => v.category).sum ≤ 8 := by rw [wds_ok]; exact hw8
  obtain ⟨i0, hi0, ek, el⟩ : ∃ i0, i0 < 2 ∧ aC k0 = adK i0 ∧ [(ct 5).length, (ct 6).length].getD i0 0 = (ct k0).length := by
    rcases h56 with rfl | rfl
    · exact ⟨0, by omega, e5, rfl⟩
    · exact ⟨1, by omega, e6, rfl⟩
  show W p l e Rm s m args below meth c H locs cells slots Q (F0 m pc la (.ref (aC k0) :: st.map (rV ad aC)))
  rw [ek]
  refine va_calli (va_runV (As := []) (rest := st.map (rV ad aC)) ⟨hx, hb, hml, hown, hts⟩ (c_len l _ _ adK adV i0 hi0) ⟨callB_of 0 hts (wJ_good cd_le) rfl rfl rfl (hts _ ji_0) hlk ⟨by decide, by decide, by decide +kernel⟩ ⟨hR.1, by have := hR.2.1; show 8 + (1 + 11) + 64 ≤ Rm.locals; omega⟩, hts _ jn_le, hts _ jx_le⟩ ⟨TxS.blind, vk_recv hE hi0 hS, fun U hU hW => ⟨rfl, TxS.of hE hZ hZq hW.alike hS hU⟩⟩ rfl rfl hv.1 rfl (lv_room hrest) hdg ⟨hR.2.2.1, hR.2.2.2⟩) hS (fun q _ h => h.elim) (fun q h => h.elim) (fun r u t H1 locs1 ht hvm hwr hB hz hk hS1 => ?_)
  have k9 := k ws H1 locs1 la _ h2 hL hl (fun v9 hv9 => by rcases List.mem_cons.mp hv9 with rfl | hv9; exact (⟨by omega, by have := (hct k0).2; omega⟩ : inI ((ct k0).length : Int)); exact hs _ (List.mem_cons_of_mem _ hv9)) hm hw (hP.at_kept hk) hD hS1 hv
  rw [hwr, el]
  exact k9
theorem go_chr (hx : p.tables.exec = Jvm.exec) (hb : c.code = cc) (hts : ∀ w ∈ lw_g, w.before args s = true) (hown : s.vm.findClass (RN oc) = some m.cls) (hml : c.maxLocals = nL) (hR : 4 ≤ Rm.frames ∧ 300 ≤ Rm.locals ∧ cells ≤ Rm.cells ∧ slots ≤ Rm.slots) (hA : Amb ct aC A s s.heap) (hct : ctOk ct) (hch : ∀ k, (k = 5 ∨ k = 6) → ∀ v ∈ ct k, 0 ≤ v ∧ v < 128) {j nx i k0 : Nat} {x : Int} {ls st : List mv} {h : mM} (h56 : k0 = 5 ∨ k0 = 6) (hi : (oc, i, 0) ∈ CHl) (hw8 : wds st ≤ 8) (g : inA x (ct k0).length) (hd : Dc cc pcs j (.invokevirtual i) 3 nx) (k : Go (fun H locs pc la sv => W p l e Rm s m args below meth c H locs cells slots Q (F0 m pc la sv)) D A tys ad aC nL s pcs S r (nx) (ls) (mI ((nth (ct k0) x.toNat).getD 0) :: st) (h)) : Go (fun H locs pc la sv => W p l e Rm s m args below meth c H locs cells slots Q (F0 m pc la sv)) D A tys ad aC nL s pcs S r (j) (ls) (mI x :: mC k0 :: st) (h) := by
  intro ws H locs la pc hpc hL hl hs hm hw hP hD hS hv
  obtain ⟨pc0, h1, hdg, h2⟩ := hd
  cases hpc.symm.trans h1
  obtain ⟨-, -, -, -, -, -, -, -, ⟨adK, adV, hE, e5, e6⟩, hZ, hZq⟩ := hA
  have hlk : (Cond.methodLink (RN oc) i yJ0_charAt_5068e).before args s = true := hts _ (CHl_ok hi)
  have hrest : ((st.map (rV ad aC)).map fun v => v.category).sum ≤ 8 := by rw [wds_ok]; exact hw8
  have hx9 : inI x := hs _ List.mem_cons_self
  obtain ⟨y, hy⟩ := nth_some (l := ct k0) (a := x.toNat) (by have := g.2; have := g.1; omega)
  have hyc := hch k0 h56 y (nth_mem hy)
  obtain ⟨i1, i2⟩ := inA_in hx9 g
  obtain ⟨i0, hi0, ek, el, eb⟩ : ∃ i0, i0 < 2 ∧ aC k0 = adK i0 ∧ [(ct 5).length, (ct 6).length].getD i0 0 = (ct k0).length ∧ [(ct 5).map Int32.ofInt, (ct 6).map Int32.ofInt].getD i0 [] = (ct k0).map Int32.ofInt := by
    rcases h56 with rfl | rfl
    · exact ⟨0, by omega, e5, rfl, rfl⟩
    · exact ⟨1, by omega, e6, rfl, rfl⟩
  show W p l e Rm s m args below meth c H locs cells slots Q (F0 m pc la (.int (Int32.ofInt x) :: .ref (aC k0) :: st.map (rV ad aC)))
  rw [ek]
  have q0 : ¬ Int32.ofInt x < 0 := fun z => by have := (i32_lt hx9 (show inI 0 by omega)).mp z; have := g.1; omega
  have q1 : Int32.ofInt x < Int32.ofNat ([(ct 5).length, (ct 6).length].getD i0 0) := by
    rw [el, ← Int32.ofInt_eq_ofNat]
    exact (i32_lt hx9 ⟨by omega, by have := (hct k0).2; omega⟩).mpr g.2
  have q2 : (((([(ct 5).map Int32.ofInt, (ct 6).map Int32.ofInt].getD i0 []).getD (Int32.ofInt x).toNatClampNeg 0) &&& 255).toUInt32 % 65536).toInt32 = Int32.ofInt y := by
    rw [eb, i2, getD_map, hy]
    exact (txt_c hyc).1
  refine va_calli (va_runV (As := [.int (Int32.ofInt x)]) (rest := st.map (rV ad aC)) ⟨hx, hb, hml, hown, hts⟩ (c_chr l _ _ adK adV i0 hi0 (Int32.ofInt x) (Int32.ofInt y) q0 q1 (by rw [el]; exact i1) q2 (txt_c hyc).2) ⟨callB_of 1 hts (wJ_good cd_ca) rfl rfl rfl (hts _ ji_0) hlk ⟨by decide, by decide, by decide +kernel⟩ ⟨hR.1, by have := hR.2.1; show 8 + (2 + 11) + 192 ≤ Rm.locals; omega⟩, hts _ jn_ca, hts _ jx_ca⟩ ⟨TxS.blind, vk_recv hE hi0 hS, fun U hU hW => ⟨rfl, TxS.of hE hZ hZq hW.alike hS hU⟩⟩ rfl rfl hv.1 rfl (lv_room hrest) hdg ⟨hR.2.2.1, hR.2.2.2⟩) hS (fun q _ h => h.elim) (fun q h => h.elim) (fun r u t H1 locs1 ht hvm hwr hB hz hk hS1 => ?_)
  rw [hy] at k
  have k9 := k ws H1 locs1 la _ h2 hL hl (fun v9 hv9 => by rcases List.mem_cons.mp hv9 with rfl | hv9; exact (⟨by have := hyc.1; omega, by have := hyc.2; omega⟩ : inI y); exact hs _ (List.mem_cons_of_mem _ (List.mem_cons_of_mem _ hv9))) hm hw (hP.at_kept hk) hD hS1 hv
  rw [hwr]
  exact k9
end
