/-! THE START: what the Statement gives of the start, and the law out of the small machine's run -/
def stT (k : Nat) : Term := .static "ToastMap" (stN k) "[I"
theorem st_len : ∀ k, k < 5 → 2 ≤ k → (CT [] k).length = 7 := by decide +kernel
def txT (i : Nat) : Term := match i with
  | 0 => .string "ToastMap$Tape" 54
  | _ => .string "ToastMapModel" 192
def txL : List Nat := [(CT [] 5).length, (CT [] 6).length]
def txB : List (List Int32) := [(CT [] 5).map Int32.ofInt, (CT [] 6).map Int32.ofInt]
theorem CT_k (xs : List Int) {k : Nat} (h : k ≠ 1) : CT xs k = CT [] k := by
  match k with
  | 0 => rfl
  | 1 => exact absurd rfl h
  | 2 => rfl
  | 3 => rfl
  | 4 => rfl
  | 5 => rfl
  | 6 => rfl
  | k + 7 => rfl
theorem CT_l7 : ∀ k, k < 7 → (CT [] k).length < 200 := by decide +kernel
theorem CT_len (xs : List Int) (h : xs.length ≤ 3072) (k : Nat) : (CT xs k).length < 2147483648 := by
  by_cases h1 : k = 1
  · subst h1
    show xs.length < 2147483648
    omega
  · rw [CT_k xs h1]
    by_cases h7 : k < 7
    · have := CT_l7 k h7
      omega
    · match k, h7 with
      | k + 7, _ =>
        show 0 < 2147483648
        omega
      | 0, h7 => omega
      | 1, h7 => omega
      | 2, h7 => omega
      | 3, h7 => omega
      | 4, h7 => omega
      | 5, h7 => omega
      | 6, h7 => omega
theorem CT_small : ∀ k, k < 7 → ∀ v ∈ CT [] k, 0 ≤ v ∧ v < 128 := by decide +kernel
theorem CT_ok (xs : List Int) (h : xs.length ≤ 3072) (hx : ∀ v ∈ xs, inI v) : ctOk (CT xs) := by
  intro k
  refine ⟨fun v hv => ?_, CT_len xs h k⟩
  by_cases h1 : k = 1
  · subst h1; exact hx v hv
  · rw [CT_k xs h1] at hv
    by_cases h7 : k < 7
    · have := CT_small k h7 v hv
      exact ⟨by omega, by omega⟩
    · match k, h7, hv with
      | k + 7, _, hv => cases hv
      | 0, h7, _ => omega
      | 1, h7, _ => omega
      | 2, h7, _ => omega
      | 3, h7, _ => omega
      | 4, h7, _ => omega
      | 5, h7, _ => omega
      | 6, h7, _ => omega
theorem CT_ch (xs : List Int) : ∀ k, (k = 5 ∨ k = 6) → ∀ v ∈ CT xs k, 0 ≤ v ∧ v < 128 := by
  intro k hk v hv
  rw [CT_k xs (by omega)] at hv
  exact CT_small k (by omega) v hv
abbrev NF : List Cond := flatC (Jvm.Cond.and given_1 narrow_1)
theorem aC_ex {args : Array Value} {s : State} (hs : ∀ w ∈ NF, w.before args s = true) (hA : ∀ a : Nat, a < s.heap.size → ¬ (fun q : Nat => s.heap.size ≤ q) a) (k : Nat) (h2 : 2 ≤ k) (h5 : k < 5) : ∃ t : Nat, (stT k).eval args s none [] s = some (.ref t) ∧ va_T .int t (CT [] k).length (fun j => .int (Int32.ofInt ((nth (CT [] k) j).getD 0))) (fun q : Nat => s.heap.size ≤ q) s s.heap := by
  have e1 : ∀ k, k < 5 → 2 ≤ k → Cond.arrayOf (stT k) .int ∈ NF := by decide +kernel
  have e2 : ∀ k, k < 5 → 2 ≤ k → Cond.eq (.length (stT k)) (.int (Int32.ofNat (CT [] k).length)) ∈ NF := by decide +kernel
  have e3 : ∀ k, k < 5 → 2 ≤ k → ∀ j, j < 7 → Cond.eq (.elem (stT k) (.int (Int32.ofNat j))) (.int (Int32.ofInt ((nth (CT [] k) j).getD 0))) ∈ NF := by decide +kernel
  exact va_Tof (by rw [st_len k h5 h2]; omega) (hs _ (e1 k h5 h2)) (va_eqt (hs _ (e2 k h5 h2))) (fun j hj => va_eqt (hs _ (e3 k h5 h2 j (by rw [st_len k h5 h2] at hj; exact hj)))) hA
def txC (i j : Nat) : Cond := Cond.eq (.elem (.field (txT i) "java/lang/String" "value" "[B") (.int (Int32.ofNat j))) (.int ((txB.getD i []).getD j 0))
theorem tx_p0 : ∀ j, j < 121 → NF[69 + j]? = some (txC 0 j) := by decide +kernel
theorem tx_p1 : ∀ j, j < 122 → NF[194 + j]? = some (txC 1 j) := by decide +kernel
theorem tx_ex {args : Array Value} {s : State} (hs : ∀ w ∈ NF, w.before args s = true) (hA : ∀ a : Nat, a < s.heap.size → ¬ (fun q : Nat => s.heap.size ≤ q) a) : ∃ adK adV : Nat → Nat, vk_S 2 txL txB adK adV (fun q : Nat => s.heap.size ≤ q) s s.heap ∧ ∀ i : Nat, i < 2 → (txT i).eval args s none [] s = some (.ref (adK i)) := by
  have e0 : ∀ i, i < 2 → txL.getD i 0 < 2 ^ 31 := by decide +kernel
  have e1 : ∀ i, i < 2 → Cond.exactly (txT i) "java/lang/String" ∈ NF := by decide +kernel
  have e2 : ∀ i, i < 2 → Cond.eq (.field (txT i) "java/lang/String" "coder" "B") (.int 0) ∈ NF := by decide +kernel
  have e3 : ∀ i, i < 2 → Cond.arrayOf (.field (txT i) "java/lang/String" "value" "[B") .byte ∈ NF := by decide +kernel
  have e4 : ∀ i, i < 2 → Cond.eq (.length (.field (txT i) "java/lang/String" "value" "[B")) (.int (Int32.ofNat (txL.getD i 0))) ∈ NF := by decide +kernel
  have e5 : ∀ i, i < 2 → ∀ j, j < txL.getD i 0 → txC i j ∈ NF := fun i hi j hj => by
    match i, hi, hj with
    | 0, _, hj => exact List.mem_of_getElem? (tx_p0 j hj)
    | 1, _, hj => exact List.mem_of_getElem? (tx_p1 j hj)
    | i + 2, h, _ => omega
  have e6 : Cond.not (Cond.eq (txT 0) (txT 1)) ∈ NF := by decide +kernel
  refine vk_Sof (tm := txT) e0 (fun i hi => hs _ (e1 i hi)) (fun i hi => hs _ (e2 i hi)) (fun i hi => hs _ (e3 i hi)) (fun i hi => hs _ (e4 i hi)) (fun i hi j hj => hs _ (e5 i hi j hj)) (fun i j hi hj hij => ?_) hA
  match i, j, hi, hj, hij with
  | 0, 0, _, _, h => exact absurd rfl h
  | 0, 1, _, _, _ => exact Or.inl (hs _ e6)
  | 1, 0, _, _, _ => exact Or.inr (hs _ e6)
  | 1, 1, _, _, h => exact absurd rfl h
  | i + 2, _, h, _, _ => omega
  | 0, j + 2, _, h, _ => omega
  | 1, j + 2, _, h, _ => omega
theorem nest_f : ∀ q ∈ GNl, Cond.fieldLinkNest (RN q.1) q.2.1 "ToastMap" (stN q.2.2) "[I" "ToastMap" ∈ lw_tbl := by decide +kernel
theorem nest_m : ∀ q ∈ NSl ++ NIl, Cond.methodLinkNest (RN q.1) q.2.1 (mtY q.2.2) "ToastMap" ∈ lw_tbl := by decide +kernel
theorem txt_r : ∀ q ∈ STl, q = (6, 54, 5) ∨ q = (12, 192, 6) := by decide +kernel
theorem lay_s : ∀ k, k < 5 → 2 ≤ k → Cond.laysStatic "ToastMap" (stN k) "[I" ∈ lw_tbl := by decide +kernel
/-- what the small machine's run of the law must be -/
def RunsOk : Prop := ∀ xs : List Int, xs.length ≤ 3072 → (∀ v ∈ xs, inI v) → ∃ n d g', d ≤ 15 ∧ exR PP (CT xs) n d (PP 357).1 0 [mC 1, mC 0, mC 0, mC 0] [] ([], [], fun _ _ => 0) = some ([mI 1], g') ∧ g'.1.length ≤ 600000 ∧ slo g'.1 ≤ 7302250
theorem amb_start {s : State} {b L : Nat} {xs : Nat → Int32} (hts : ∀ w ∈ lw_tbl, w.before #[Value.ref b] s = true) (hX : va_X b L xs s s.heap) (hbl : b < s.heap.size) (hgv : (Jvm.Cond.and given_1 narrow_1).before #[Value.ref b] s = true) : ∃ aC : Nat → Nat, aC 1 = b ∧ Amb (CT ((List.range L).map (fun j => (xs j).toInt))) aC (fun q : Nat => s.heap.size ≤ q) s s.heap := by
  have hA : ∀ a : Nat, a < s.heap.size → ¬ (fun q : Nat => s.heap.size ≤ q) a := fun a h z => absurd z (Nat.not_le.mpr h)
  have hs := flat_of_before _ hgv
  obtain ⟨t2, g2, h2⟩ := aC_ex hs hA 2 (by omega) (by omega)
  obtain ⟨t3, g3, h3⟩ := aC_ex hs hA 3 (by omega) (by omega)
  obtain ⟨t4, g4, h4⟩ := aC_ex hs hA 4 (by omega) (by omega)
  obtain ⟨adK, adV, hE, hK⟩ := tx_ex hs hA
  have hi : Cond.initialized "ToastMap" ∈ lw_tbl := g_tbl (INl_ok (oc := 11) (by decide +kernel))
  have z1 : Cond.laysStatic "java/lang/String" "COMPACT_STRINGS" "Z" ∈ lw_tbl := by decide +kernel
  have z2 : Cond.eq (.static "java/lang/String" "COMPACT_STRINGS" "Z") (.int 1) ∈ NF := by decide +kernel
  have z3 : Cond.laysStatic "jdk/internal/util/Preconditions" "SIOOBE_FORMATTER" "Ljava/util/function/BiFunction;" ∈ lw_tbl := by decide +kernel
  have z4 : Cond.isRef (.static "jdk/internal/util/Preconditions" "SIOOBE_FORMATTER" "Ljava/util/function/BiFunction;") ∈ NF := by decide +kernel
  have o1 : Cond.arrayOver (.object "ToastMap$Company") ∈ lw_tbl := by decide +kernel
  have o2 : Cond.arrayOver (.object "ToastMap$Times") ∈ lw_tbl := by decide +kernel
  have o3 : Cond.arrayOver (.array .long) ∈ lw_tbl := by decide +kernel
  have s1 : ∃ tx, Cond.stringRef "ToastMap$Tape" 54 tx ∈ lw_tbl := ⟨_, by first | exact (by decide +kernel : Cond.stringRef "ToastMap$Tape" 54 "odds sham glow cool heat reach person at meant warm glasses toast to drink night evening fill any when lit loop end stop " ∈ lw_tbl)⟩
  have s2 : ∃ tx, Cond.stringRef "ToastMapModel" 192 tx ∈ lw_tbl := ⟨_, (by decide +kernel : Cond.stringRef "ToastMapModel" 192 " odds sham glow cool heat reach person toast at meant warm glasses to drink night evening fill any when loop end stop lit " ∈ lw_tbl)⟩
  refine ⟨fun k => match k with
    | 1 => b
    | 2 => t2
    | 3 => t3
    | 4 => t4
    | 5 => adK 0
    | _ => adK 1, rfl, ?_⟩
  refine ⟨fun k k1 k4 => ?_, fun k k2 k4 => ?_, fun q hq => va_Nw.of rfl (hts _ (nest_f q hq)), fun q hq => va_Nw.of rfl (hts _ (nest_m q hq)), fun q hq => ?_, va_AO.of (hts _ o1), va_AO.of (hts _ o2), hts _ o3, ⟨adK, adV, hE, rfl, rfl⟩, va_Zof (hts _ z1) (hts _ (g_tbl ji_0)) (va_eqt (hs _ z2)) hA, va_Zqof (hts _ z3) (hts _ (g_tbl ji_3)) (hs _ z4) hA⟩
  · match k, k1, k4 with
    | 1, _, _ =>
      obtain ⟨scr, c1, c2, c3, c4, c5⟩ := hX
      refine ⟨scr, c1, c2, c3, ?_, ?_, fun j hj => ?_, hA b hbl⟩
      · show ((List.range L).map (fun j => (xs j).toInt)).length ≤ _
        rw [List.length_map, List.length_range, c4]
        exact Nat.le_refl _
      · show _ = Int32.ofNat ((List.range L).map (fun j => (xs j).toInt)).length
        rw [List.length_map, List.length_range, c4]
      · have hj : j < ((List.range L).map (fun j => (xs j).toInt)).length := hj
        rw [List.length_map, List.length_range] at hj
        rw [c5 j hj]
        show some (Value.int (xs j)) = some (Value.int (Int32.ofInt ((nth ((List.range L).map (fun j => (xs j).toInt)) j).getD 0)))
        rw [nth_get, List.getElem?_map, List.getElem?_range hj]
        show some (Value.int (xs j)) = some (Value.int (Int32.ofInt (xs j).toInt))
        rw [Int32.ofInt_toInt]
    | 2, _, _ => exact h2
    | 3, _, _ => exact h3
    | 4, _, _ => exact h4
    | 0, k1, _ => omega
    | k + 5, _, k4 => omega
  · match k, k2, k4 with
    | 2, _, _ => exact va_Zref (hts _ (lay_s 2 (by omega) (by omega))) (hts _ hi) g2 hA
    | 3, _, _ => exact va_Zref (hts _ (lay_s 3 (by omega) (by omega))) (hts _ hi) g3 hA
    | 4, _, _ => exact va_Zref (hts _ (lay_s 4 (by omega) (by omega))) (hts _ hi) g4 hA
    | 0, k2, _ => omega
    | 1, k2, _ => omega
    | k + 5, _, k4 => omega
  · rcases txt_r q hq with rfl | rfl
    · obtain ⟨tx, h⟩ := s1
      exact ⟨tx, vk_R.of (hts _ h) (hK 0 (by omega))⟩
    · obtain ⟨tx, h⟩ := s2
      exact ⟨tx, vk_R.of (hts _ h) (hK 1 (by omega))⟩
theorem inst_ok : ∀ k, k < 13 → Cond.instantiable (cnm k) ((nth FT k).getD []).length ∈ lw_tbl := by decide +kernel
theorem known_all {s : State} {args : Array Value} (hts : ∀ w ∈ lw_tbl, w.before args s = true) : ∃ D : va_G, va_K D vwCl [] s := by
  have h0 : ∀ k : Nat, ∃ z : ClassId × (Nat → Nat), ∀ q : vw_C, vwCl[k]? = some q → u_Kn s q.1 q.2.1 q.2.2 z.1 z.2 := by
    intro k
    by_cases hk : k < 13
    · obtain ⟨f, hf⟩ : ∃ f, nth FT k = some f := nth_some (l := FT) hk
      obtain ⟨C, N, hc, hl, hin, -, -⟩ := vwT_facts hf
      have hC : cnm k = C := by
        unfold cnm
        rw [nth_get, hc]
      have hi := inst_ok k hk
      rw [hC] at hi
      obtain ⟨cC, iS, hKn⟩ := u_known (C := C) (T := vwT k) (N := N) hts (fun w hw => g_tbl (hin w hw)) (hts _ hi)
      refine ⟨(cC, iS), fun q hq => ?_⟩
      cases hc.symm.trans hq
      exact hKn
    · refine ⟨(0, fun _ => 0), fun q hq => ?_⟩
      have := (List.getElem?_eq_some_iff.mp hq).1
      exact absurd this (by show ¬ k < 13; exact hk)
  obtain ⟨f, hf⟩ := Classical.axiomOfChoice h0
  exact ⟨(fun k => (f k).1, fun k => (f k).2), fun k q hq => hf k q hq, fun k q h => by simp at h⟩
def R_law : String := "ToastMapLaw"
def lw_P (b : Addr) (xs : List Int32) (args : Array Value) (s : State) : Prop := args = #[.ref b] ∧ s.IntsAt b xs ∧ xs.length ≤ 3072 ∧ (Jvm.Cond.and given_1 narrow_1).before args s = true
def lw_Q (_ : Array Value) (s : State) (o : Outcome) (t : State) : Prop := o = .returned (some (.int 1)) ∧ Framed s o t [] 600000 7302250
def lw_Z (below : List Frame) (a : Array Value) (s : State) : State → Prop := fun t => ∃ o, t.status = .running ∧ Ended t below o ∧ lw_Q a s o t
theorem lw_ret {p : Program} {l : Launch} {e : Env} {s : State} {m : MethodId} {below : List Frame} {meth : Method} {c : Code} {b : Nat} (hx : p.tables.exec = Jvm.exec) (hb : c.code = code) (hr : meth.sig.returnType = ret) (hlocks : meth.locks = false) {pc : Nat} {H : Heap} {ls : Array Slot} (hdg : decode code pc = .ok (.ireturn, 1)) : W p l e room_1 s m #[Value.ref b] below meth c H [] 600000 7302250 (lw_Z below #[Value.ref b] s) (F0 m pc ls [.int 1]) := by
  intro T hT X
  obtain ⟨fs, hret, hrun, hended, hW, hframe⟩ := X.leave (v := some (.int 1)) (hlocks := hlocks) (fun h => by rw [hr] at h; cases h)
  have hmeth' : T.vm.method? m = some meth := X.method'
  refine ⟨T.setFrames fs, ?_, .returned (some (.int 1)), hrun, hended, rfl, ⟨_, rfl⟩, hW, hframe⟩
  jvm_step X.here [X.here.top, hx, hb, hdg, hmeth', hr, ret, narrow_b1]
  (try refine ⟨rfl, ?_⟩); (try refine ⟨rfl, ?_⟩)
  first | (intro acts; rw [hret _ acts rfl rfl rfl]) | rw [hret _ _ rfl rfl rfl]
  exact Steps.refl _
def lw_At (p : Program) (s : State) (m : MethodId) (meth : Method) (c : Code) (b L : Nat) (xs : Nat → Int32) : Prop :=
  p.tables.exec = Jvm.exec ∧ c.code = code ∧ meth.sig.returnType = ret ∧ c.maxLocals = 4 ∧ s.vm.findClass R_law = some m.cls ∧ (∀ w ∈ lw_tbl, w.before #[Value.ref b] s = true) ∧ va_X b L xs s s.heap ∧ b < s.heap.size ∧ meth.locks = false ∧ (Jvm.Cond.and given_1 narrow_1).before #[Value.ref b] s = true
theorem law_tab : mtB 357 = code ∧ (PP 357).2 = 4 ∧ mtO 357 = 13 ∧ mtK 357 = 10 := ⟨rfl, rfl, rfl, rfl⟩
theorem law_nm : ¬ (mtY 357).name = "<init>" := by decide +kernel
theorem pc_law : nth (mtP 357) 0 = some 0 := by decide +kernel
theorem whole_of {p : Program} {e : Env} {s : State} {m : MethodId} {below : List Frame} {meth : Method} {c : Code} (l : Launch) (hMn : MnaR) (hC : Chk) (hE : RunsOk) {b L : Nat} {xs : Nat → Int32} (hL : L ≤ 3072) (C0 : lw_At p s m meth c b L xs) : W p l e room_1 s m #[Value.ref b] below meth c s.heap [] 0 0 (lw_Z below #[Value.ref b] s) (entryFrame m ([Value.ref b] : List Value).toArray 4) := by
  obtain ⟨hx, hb, hr, hml, hown, hts, hX, hbl, hlocks, hgv⟩ := C0
  obtain ⟨aC, ha1, hAmb⟩ := amb_start hts hX hbl hgv
  obtain ⟨D, hK⟩ := known_all hts
  generalize hXs : (List.range L).map (fun j => (xs j).toInt) = XS at hAmb
  have hlen : XS.length ≤ 3072 := by rw [← hXs, List.length_map, List.length_range]; exact hL
  have hin : ∀ v ∈ XS, inI v := by
    intro v hv
    rw [← hXs] at hv
    obtain ⟨j, -, rfl⟩ := List.mem_map.mp hv
    exact i32_in _
  obtain ⟨n, d, g', hd, hrun, hc9, hs9⟩ := hE XS hlen hin
  have hl := lv_entry ([.ref b]) (n := 4) (Nat.le_of_ble_eq_true rfl)
  rw [lg_entry_eq]
  generalize (lg_sl ([.ref b]) ++ List.replicate (4 - (lg_sl ([.ref b])).length) Slot.unset).toArray = la at hl ⊢
  have hl : lv_has la 4 [(0, .ref b)] := hl
  have fx : Fx (CT XS) aC (fun q : Nat => s.heap.size ≤ q) p room_1 s m #[Value.ref b] meth c 357 d :=
    ⟨hx, hb, fun w hw => hts w (g_tbl hw), hown, hml, hAmb, fun q h => h, by show 40 * d + 10 + 5 ≤ 2048; omega, by show 128 * (40 * d + 10 + 5) ≤ 84000; omega, fun z => absurd z law_nm⟩
  have G := sim_all hMn hC (CT_ok XS hlen hin) (CT_ch XS) n p l e room_1 s m #[Value.ref b] below meth c (lw_Z below #[Value.ref b] s) D (fun q : Nat => s.heap.size ≤ q) aC 357 d fx 0 _ [] ([], [], fun _ _ => 0) ([mI 1], g') (fun _ => 0) [] 0 0 g'.1.length (slo g'.1) hrun ⟨rfl, fun a x l h => by cases a <;> cases h⟩ hK (by show 0 + g'.1.length = g'.1.length + 0; omega) (by show 0 + slo g'.1 = slo g'.1 + 0; omega) hc9 hs9 (by
    intro ad' tys' j' ls' hag hRT hK' ws' H locs la' pc hpc hL' hl' hs' hm' hw' hP' hD' hS' hv'
    have hdc : ∀ pc, nth (mtP 357) j' = some pc → decode code pc = .ok (.ireturn, 1) := by
      rcases hRT with ⟨h, -⟩ | ⟨x, h, hdc, -⟩ | ⟨x, h, -⟩ | ⟨a, C, h, -⟩
      · cases h
      · exact hdc
      · cases h
      · cases h
    refine va_forget (fun q hq => hS'.2.2 q hq) ?_
    refine W.widen (k := 600000) (n := 7302250) hc9 hs9 ?_
    exact lw_ret hx hb hr hlocks (hdc pc hpc))
  have hm0 : mOk [] (fun _ _ => 0) := ⟨fun a k => (show inL 0 by omega), fun a k _ => (show inI 0 by omega), fun a k _ => rfl⟩
  have hW0 : Wld [] [] (fun _ => 0) [] [] (fun _ _ => 0) := ⟨rfl, (fun a ci h => by cases a <;> cases h), (fun a t n h => by cases a <;> cases h), (fun a k b h => by unfold rfAt at h; cases a <;> cases h)⟩
  refine G [] s.heap [] la 0 pc_law rfl (fun v hv => ?_) (fun v hv => by cases hv) hm0 hW0 (fun k q h => by simp at h) ⟨fun i j x y h => by simp at h, fun k q h => by simp at h⟩ va_S.rf ?_
  · rcases List.mem_cons.mp hv with rfl | hv
    · trivial
    · rcases List.mem_cons.mp hv with rfl | hv
      · trivial
      · rcases List.mem_cons.mp hv with rfl | hv
        · trivial
        · rcases List.mem_cons.mp hv with rfl | hv
          · trivial
          · cases hv
  · show lv_has la 4 [(0, .ref (aC 1))]
    rw [ha1]
    exact hl
