/-! SIM 1: small values and worlds as real ones -/
/-- the words of the tables that hold at every later state -/
def lw_g : List Cond := lw_tbl.filter goodWord
theorem mem_g {w : Cond} (h : w ∈ lw_tbl) (hg : goodWord w = true) : w ∈ lw_g := List.mem_filter.mpr ⟨h, hg⟩
theorem g_tbl {w : Cond} (h : w ∈ lw_g) : w ∈ lw_tbl := (List.mem_filter.mp h).1
theorem g_good {w : Cond} (h : w ∈ lw_g) : goodWord w = true := (List.mem_filter.mp h).2
theorem u_g {C : String} {T : u_T} {N : Nat} (h : ∀ w ∈ u_ws C T N, w ∈ lw_tbl) : ∀ w ∈ u_ws C T N, w ∈ lw_g := by
  intro w hw
  refine mem_g (h w hw) ?_
  obtain ⟨k, -, rfl⟩ := List.mem_map.mp hw
  unfold u_lay
  split <;> rfl
def rV (ad aC : Nat → Nat) : mv → Value
  | .inl x => .int (Int32.ofInt x)
  | .inr (.inl x) => .long (Int64.ofInt x)
  | .inr (.inr (.inl a)) => .ref (ad a)
  | .inr (.inr (.inr k)) => .ref (aC k)
def vOk (n : Nat) : mv → Prop
  | .inl x => inI x
  | .inr (.inl x) => inL x
  | .inr (.inr (.inl a)) => a < n
  | .inr (.inr (.inr _)) => True
def asc (ad aC : Nat → Nat) : Nat → List mv → List (Nat × Value)
  | _, [] => []
  | i, v :: r => if v = mC 0 then asc ad aC (i + 1) r else (i, rV ad aC v) :: asc ad aC (i + 1) r
theorem mem_asc {ad aC : Nat → Nat} {q : Nat × Value} : ∀ {ls : List mv} {i : Nat}, q ∈ asc ad aC i ls ↔ ∃ k v, nth ls k = some v ∧ v ≠ mC 0 ∧ q = (i + k, rV ad aC v)
  | [], i => ⟨fun h => by simp [asc] at h, fun ⟨k, v, h, _⟩ => by cases k <;> cases h⟩
  | u :: r, i => by
    have ih := @mem_asc ad aC q r (i + 1)
    constructor
    · intro h
      unfold asc at h
      split at h
      · obtain ⟨k, v, h1, h2, h3⟩ := ih.mp h
        exact ⟨k + 1, v, h1, h2, by rw [h3]; congr 1; omega⟩
      · next hu =>
        rcases List.mem_cons.mp h with h | h
        · exact ⟨0, u, rfl, hu, h⟩
        · obtain ⟨k, v, h1, h2, h3⟩ := ih.mp h
          exact ⟨k + 1, v, h1, h2, by rw [h3]; congr 1; omega⟩
    · rintro ⟨k, v, h1, h2, h3⟩
      unfold asc
      cases k with
      | zero =>
        cases h1
        rw [if_neg h2, h3]
        exact List.mem_cons_self
      | succ k =>
        have h4 := ih.mpr ⟨k, v, h1, h2, by rw [h3]; congr 1; omega⟩
        split
        · exact h4
        · exact List.mem_cons_of_mem _ h4
theorem nth_lt {α : Type} : ∀ {l : List α} {k : Nat} {a : α}, nth l k = some a → k < l.length
  | [], k, _, h => by cases k <;> cases h
  | _ :: l, 0, _, _ => by simp
  | _ :: l, k + 1, a, h => by
    have := nth_lt (l := l) (k := k) (a := a) h
    simp only [List.length_cons]; omega
theorem nth_get {α : Type} : ∀ {l : List α} {k : Nat}, nth l k = l[k]?
  | [], k => by cases k <;> rfl
  | _ :: l, 0 => rfl
  | _ :: l, k + 1 => by
    rw [List.getElem?_cons_succ]
    exact nth_get (l := l) (k := k)
theorem nth_mem {α : Type} {l : List α} {k : Nat} {a : α} (h : nth l k = some a) : a ∈ l := by
  rw [nth_get] at h
  exact List.mem_of_getElem? h
/-- the classes' fields: 0 int, 1 long, 2 a reference, 3 boolean -/
def FT : List (List Nat) := [[0, 0, 2, 2, 2, 2, 2, 2, 2, 2], [2, 0, 0, 0], [2, 0], [2, 0, 0, 0, 0, 0, 0, 3], [2, 2, 0], [2, 2, 0], [2, 2, 0, 0, 0, 0, 0, 0, 0, 0, 1, 0, 0], [2, 2, 2, 2, 2, 2, 0, 0, 3], [2, 2, 2, 0], [2, 2, 2], [2, 2, 2, 0, 0], [0, 1, 1, 3, 2, 2, 2, 2, 2, 2, 2, 2, 2, 2, 2, 2, 2, 2, 2], [2, 2, 0, 1, 1, 2, 2, 2, 2, 2, 0, 0, 0, 0, 0, 0, 0, 0, 0, 0, 0, 2, 0, 0, 2, 2, 0, 0, 2, 0, 2, 2, 2, 2, 0, 2, 2, 2, 2, 0, 0, 2, 2, 2, 3, 0]]
def rfAt (r : mRf) (a k : Nat) : Option Nat := match nth r a with
  | some l => match nth l k with
    | some o => o
    | none => none
  | none => none
def fvl (ad : Nat → Nat) (r : mRf) (h : mM) (a k t : Nat) : Value := match t with
  | 1 => .long (Int64.ofInt (h a (k : Int)))
  | 2 => va_rf ((rfAt r a k).map ad)
  | _ => .int (Int32.ofInt (h a (k : Int)))
def fvs (ad : Nat → Nat) (r : mRf) (h : mM) (a : Nat) : Nat → List Nat → List Value
  | _, [] => []
  | k, t :: ts => fvl ad r h a k t :: fvs ad r h a (k + 1) ts
def acn (ad : Nat → Nat) (r : mRf) (h : mM) (a t : Nat) : (Nat → Int32) ⊕ (Nat → Int64) ⊕ (Nat → UInt32) ⊕ (Nat → UInt64) ⊕ (Nat → Option Nat) := match t with
  | 0 => .inl (fun j => Int32.ofInt (h a (j : Int)))
  | 1 => .inr (.inl (fun j => Int64.ofInt (h a (j : Int))))
  | 2 => .inl (fun j => Int32.ofInt (h a (j : Int)))
  | _ => .inr (.inr (.inr (.inr (fun j => (rfAt r a j).map ad))))
def cnm (ci : Nat) : String := match nth vwCl ci with
  | some q => q.1
  | none => ""
def aty (t : Nat) : FieldType := match t with
  | 0 => .int
  | 1 => .long
  | 2 => .byte
  | 3 => .array .long
  | t => .object (cnm (t - 10))
def Wld (tys : List (ClassId × FieldType)) (ws : va_W) (ad : Nat → Nat) (S : mSh) (r : mRf) (h : mM) : Prop :=
  ws.length = S.length ∧ (∀ a ci, nth S a = some (.inl ci) → ∃ f, nth FT ci = some f ∧ ws[a]? = some (ad a, .inr (ci, fvs ad r h a 0 f))) ∧
  (∀ a t n, nth S a = some (.inr (t, n)) → ∃ cA t0 : Nat, tys[t0]? = some (cA, aty t) ∧ n < 2147483648 ∧ ws[a]? = some (ad a, .inl (cA, n, acn ad r h a t))) ∧
  (∀ a k b, rfAt r a k = some b → b < S.length)
/-- is the number at a, k a long? -/
def isL (S : mSh) (a : Nat) (k : Int) : Bool := match nth S a with
  | some (.inl ci) => match nth FT ci with
    | some f => match nth f k.toNat with
      | some 1 => true
      | _ => false
    | none => false
  | some (.inr (1, _)) => true
  | _ => false
def mOk (S : mSh) (h : mM) : Prop := (∀ a k, inL (h a k)) ∧ (∀ a k, isL S a k = false → inI (h a k)) ∧ ∀ a k, S.length ≤ a → h a k = 0
theorem fvs_get {ad : Nat → Nat} {r : mRf} {h : mM} {a : Nat} : ∀ {f : List Nat} {i k t : Nat}, nth f k = some t → (fvs ad r h a i f)[k]? = some (fvl ad r h a (i + k) t)
  | [], i, k, t, h => by cases k <;> cases h
  | u :: f, i, 0, t, h => by cases h; rfl
  | u :: f, i, k + 1, t, h => by
    show (fvs ad r _ a (i + 1) f)[k]? = _
    rw [fvs_get (f := f) (i := i + 1) h]
    congr 2
    omega
theorem fvs_len {ad : Nat → Nat} {r : mRf} {h : mM} {a : Nat} : ∀ {f : List Nat} {i : Nat}, (fvs ad r h a i f).length = f.length
  | [], i => rfl
  | u :: f, i => by
    show (fvs ad r h a (i + 1) f).length + 1 = f.length + 1
    rw [fvs_len]
theorem fvs_congr {ad : Nat → Nat} {r : mRf} {h h' : mM} {a : Nat} (e : ∀ k, h' a k = h a k) : ∀ {f : List Nat} {i : Nat}, fvs ad r h' a i f = fvs ad r h a i f
  | [], i => rfl
  | u :: f, i => by
    show fvl ad r h' a i u :: _ = fvl ad r h a i u :: _
    rw [fvs_congr e (f := f)]
    congr 1
    unfold fvl
    split <;> simp only [e]
theorem fvs_set {ad : Nat → Nat} {r : mRf} {h : mM} {a : Nat} {x : Int} {j : Nat} : ∀ {f : List Nat} {i k t : Nat}, nth f k = some t → t ≠ 2 → j = i + k → fvs ad r (upM h a (j : Int) x) a i f = (fvs ad r h a i f).set k (if t = 1 then .long (Int64.ofInt x) else .int (Int32.ofInt x))
  | [], i, k, t, h, _, _ => by cases k <;> cases h
  | u :: f, i, 0, t, hk, h2, hj => by
    cases hk
    have hj : j = i := hj
    subst hj
    show fvl ad r _ a j u :: fvs ad r _ a (j + 1) f = _ :: fvs ad r h a (j + 1) f
    congr 1
    · unfold fvl upM
      split <;> simp_all
    · have : ∀ (f : List Nat) (i : Nat), j < i → fvs ad r (upM h a (j : Int) x) a i f = fvs ad r h a i f := by
        intro f
        induction f with
        | nil => intro i _; rfl
        | cons u f ih =>
          intro i hi
          show fvl ad r _ a i u :: _ = fvl ad r h a i u :: _
          rw [ih (i + 1) (by omega)]
          congr 1
          have e : upM h a (j : Int) x a (i : Int) = h a (i : Int) := by
            unfold upM
            rw [if_neg]
            omega
          unfold fvl
          split <;> simp only [e]
      exact this f (j + 1) (by omega)
  | u :: f, i, k + 1, t, hk, h2, hj => by
    show fvl ad r _ a i u :: fvs ad r _ a (i + 1) f = fvl ad r h a i u :: (fvs ad r h a (i + 1) f).set k _
    rw [fvs_set (f := f) (i := i + 1) (k := k) (t := t) hk h2 (by omega)]
    congr 1
    have e : upM h a (j : Int) x a (i : Int) = h a (i : Int) := by
      unfold upM
      rw [if_neg]
      omega
    unfold fvl
    split <;> simp only [e]
theorem acn_congr {ad : Nat → Nat} {r : mRf} {h h' : mM} {a t : Nat} (e : ∀ k, h' a k = h a k) : acn ad r h' a t = acn ad r h a t := by
  unfold acn
  split <;> simp only [e]
theorem upM_ne {h : mM} {a b : Nat} {i k x : Int} (hn : b ≠ a) : upM h a i x b k = h b k := by
  unfold upM
  rw [if_neg (fun q => hn q.1)]
theorem mOk_up {S : mSh} {h : mM} {a : Nat} {i x : Int} (hm : mOk S h) (ha : a < S.length) (hx : inL x) (hi : isL S a i = false → inI x) : mOk S (upM h a i x) := by
  refine ⟨fun b k => ?_, fun b k hb => ?_, fun b k hb => by rw [upM_ne (by omega)]; exact hm.2.2 b k hb⟩
  · unfold upM
    split
    · exact hx
    · exact hm.1 b k
  · unfold upM
    split
    · next q =>
      rw [q.1, q.2] at hb
      exact hi hb
    · exact hm.2.1 b k hb
theorem i32_of {x : Int} (h : inI x) : (Int32.ofInt x).toInt = x := Int32.toInt_ofInt_of_le (by have := h.1; omega) (by have := h.2; omega)
theorem i64_of {x : Int} (h : inL x) : (Int64.ofInt x).toInt = x := Int64.toInt_ofInt_of_le (by have := h.1; omega) (by have := h.2; omega)
theorem i32_to (x : Int32) : Int32.ofInt x.toInt = x := Int32.ofInt_toInt x
theorem i64_to (x : Int64) : Int64.ofInt x.toInt = x := Int64.ofInt_toInt x
theorem i32_in (x : Int32) : inI x.toInt := ⟨by have := Int32.le_toInt x; omega, by have := Int32.toInt_lt x; omega⟩
theorem i64_in (x : Int64) : inL x.toInt := ⟨by have := Int64.le_toInt x; omega, by have := Int64.toInt_lt x; omega⟩
theorem i32_eq {x y : Int} (hx : inI x) (hy : inI y) : Int32.ofInt x = Int32.ofInt y ↔ x = y := ⟨fun h => by have := congrArg Int32.toInt h; rwa [i32_of hx, i32_of hy] at this, fun h => by rw [h]⟩
theorem i32_lt {x y : Int} (hx : inI x) (hy : inI y) : Int32.ofInt x < Int32.ofInt y ↔ x < y := by rw [Int32.lt_iff_toInt_lt, i32_of hx, i32_of hy]
theorem i32_le {x y : Int} (hx : inI x) (hy : inI y) : Int32.ofInt x ≤ Int32.ofInt y ↔ x ≤ y := by rw [Int32.le_iff_toInt_le, i32_of hx, i32_of hy]
theorem i64_eq {x y : Int} (hx : inL x) (hy : inL y) : Int64.ofInt x = Int64.ofInt y ↔ x = y := ⟨fun h => by have := congrArg Int64.toInt h; rwa [i64_of hx, i64_of hy] at this, fun h => by rw [h]⟩
theorem i64_lt {x y : Int} (hx : inL x) (hy : inL y) : Int64.ofInt x < Int64.ofInt y ↔ x < y := by rw [Int64.lt_iff_toInt_lt, i64_of hx, i64_of hy]
theorem inL_of {x : Int} (h : inI x) : inL x := ⟨by have := h.1; omega, by have := h.2; omega⟩
theorem div_in {x y : Int} (hx : inI x) (g : 0 ≤ x ∧ 0 < y) : inI (x / y) := by
  have h1 := Int.ediv_nonneg g.1 (Int.le_of_lt g.2)
  have h2 := Int.ediv_le_self y g.1
  exact ⟨by omega, by have := hx.2; omega⟩
theorem mod_in {x y : Int} (hy : inI y) (g : 0 ≤ x ∧ 0 < y) : inI (x % y) := by
  have h1 := Int.emod_nonneg x (by omega : y ≠ 0)
  have h2 := Int.emod_lt_of_pos x g.2
  exact ⟨by omega, by have := hy.2; omega⟩
theorem divL_in {x y : Int} (hx : inL x) (g : 0 ≤ x ∧ 0 < y) : inL (x / y) := by
  have h1 := Int.ediv_nonneg g.1 (Int.le_of_lt g.2)
  have h2 := Int.ediv_le_self y g.1
  exact ⟨by omega, by have := hx.2; omega⟩
theorem modL_in {x y : Int} (hy : inL y) (g : 0 ≤ x ∧ 0 < y) : inL (x % y) := by
  have h1 := Int.emod_nonneg x (by omega : y ≠ 0)
  have h2 := Int.emod_lt_of_pos x g.2
  exact ⟨by omega, by have := hy.2; omega⟩
theorem i32_div {x y : Int} (hx : inI x) (hy : inI y) (g : 0 ≤ x ∧ 0 < y) : Int32.ofInt (x / y) = Int32.ofInt x / Int32.ofInt y := by
  apply Int32.toInt_inj.mp
  have h9 := div_in hx g
  rw [Int32.toInt_div, i32_of hx, i32_of hy, i32_of h9, Int.tdiv_eq_ediv_of_nonneg g.1]
  exact (Int.bmod_eq_of_le (by have := h9.1; omega) (by have := h9.2; omega)).symm
theorem i32_mod {x y : Int} (hx : inI x) (hy : inI y) (g : 0 ≤ x ∧ 0 < y) : Int32.ofInt (x % y) = Int32.ofInt x - Int32.ofInt x / Int32.ofInt y * Int32.ofInt y := by
  rw [← i32_div hx hy g, ← Int32.ofInt_mul, ← Int32.ofInt_sub, Int.emod_def, Int.mul_comm]
theorem i32_ne0 {y : Int} (hy : inI y) (g : 0 < y) : ¬ Int32.ofInt y = 0 := fun q => by
  have q2 := congrArg Int32.toInt q
  rw [i32_of hy] at q2
  have q3 : (0 : Int32).toInt = 0 := rfl
  omega
theorem i64_div {x y : Int} (hx : inL x) (hy : inL y) (g : 0 ≤ x ∧ 0 < y) : Int64.ofInt (x / y) = Int64.ofInt x / Int64.ofInt y := by
  apply Int64.toInt_inj.mp
  have h9 := divL_in hx g
  rw [Int64.toInt_div, i64_of hx, i64_of hy, i64_of h9, Int.tdiv_eq_ediv_of_nonneg g.1]
  exact (Int.bmod_eq_of_le (by have := h9.1; omega) (by have := h9.2; omega)).symm
theorem i64_mod {x y : Int} (hx : inL x) (hy : inL y) (g : 0 ≤ x ∧ 0 < y) : Int64.ofInt (x % y) = Int64.ofInt x - Int64.ofInt x / Int64.ofInt y * Int64.ofInt y := by
  rw [← i64_div hx hy g, ← Int64.ofInt_mul, ← Int64.ofInt_sub, Int.emod_def, Int.mul_comm]
theorem i64_ne0 {y : Int} (hy : inL y) (g : 0 < y) : ¬ Int64.ofInt y = 0 := fun q => by
  have q2 := congrArg Int64.toInt q
  rw [i64_of hy] at q2
  have q3 : (0 : Int64).toInt = 0 := rfl
  omega
theorem i2l_eq {x : Int} (hx : inI x) : Int64.ofInt x = (Int32.ofInt x).toInt64 := by
  apply Int64.toInt_inj.mp
  rw [Int32.toInt_toInt64, i32_of hx, i64_of (inL_of hx)]
/-- the raw instruction of a place, and the place behind it -/
def Dc (cc : ByteArray) (pcs : List Nat) (j : Nat) (raw : Instr) (len nx : Nat) : Prop := ∃ pc, nth pcs j = some pc ∧ decode cc pc = .ok (raw, len) ∧ nth pcs nx = some (pc + len)
/-- from any real state that is so, it goes well -/
def Go (w : Heap → List Loc → Nat → Array Slot → List Value → Prop) (D : va_G) (A : Nat → Prop) (tys : List (ClassId × FieldType)) (ad aC : Nat → Nat) (nL : Nat) (s : State) (pcs : List Nat) (S : mSh) (r : mRf) (j : Nat) (ls st : List mv) (h : mM) : Prop :=
  ∀ (ws : va_W) (H : Heap) (locs : List Loc) (la : Array Slot) (pc : Nat), nth pcs j = some pc → ls.length = nL → (∀ v ∈ ls, vOk S.length v) → (∀ v ∈ st, vOk S.length v) → mOk S h → Wld tys ws ad S r h → va_P D vwCl ws H → va_D A ws → va_S A s.heap H locs → lv_has la nL (asc ad aC 0 ls) → w H locs pc la (st.map (rV ad aC))
section
variable {p : Program} {l : Launch} {e : Env} {Rm : Room} {s : State} {m : MethodId} {args : Array Value} {below : List Frame} {meth : Method} {c : Code} {cc : ByteArray} {D : va_G} {A : Nat → Prop} {tys : List (ClassId × FieldType)} {ad aC : Nat → Nat} {nL cells slots : Nat} {Q : State → Prop} {pcs : List Nat} {S : mSh} {r : mRf} {j nx : Nat} {ls st : List mv} {h : mM}
theorem go_iconst (hx : p.tables.exec = Jvm.exec) (hb : c.code = cc) {n : Int} (hn : inI n)  (hd : Dc cc pcs j (.iconst n) 1 nx) (k : Go (fun H locs pc la sv => W p l e Rm s m args below meth c H locs cells slots Q (F0 m pc la sv)) D A tys ad aC nL s pcs S r (nx) (ls) (mI n :: st) (h)) : Go (fun H locs pc la sv => W p l e Rm s m args below meth c H locs cells slots Q (F0 m pc la sv)) D A tys ad aC nL s pcs S r (j) (ls) (st) (h) := by
  intro ws H locs la pc hpc hL hl hs hm hw hP hD hS hv
  obtain ⟨pc0, h1, hdg, h2⟩ := hd
  cases hpc.symm.trans h1
  exact lv_iconst hx hb hdg rfl (k ws H locs la _ h2 hL hl (fun v9 hv9 => by rcases List.mem_cons.mp hv9 with rfl | hv9; exact hn; exact hs _ hv9) hm hw hP hD hS hv)
theorem go_bipush (hx : p.tables.exec = Jvm.exec) (hb : c.code = cc) {n : Int} (hn : inI n) (hq : (Int8.ofInt n).toInt32 = Int32.ofInt n) (hd : Dc cc pcs j (.bipush n) 2 nx) (k : Go (fun H locs pc la sv => W p l e Rm s m args below meth c H locs cells slots Q (F0 m pc la sv)) D A tys ad aC nL s pcs S r (nx) (ls) (mI n :: st) (h)) : Go (fun H locs pc la sv => W p l e Rm s m args below meth c H locs cells slots Q (F0 m pc la sv)) D A tys ad aC nL s pcs S r (j) (ls) (st) (h) := by
  intro ws H locs la pc hpc hL hl hs hm hw hP hD hS hv
  obtain ⟨pc0, h1, hdg, h2⟩ := hd
  cases hpc.symm.trans h1
  exact lv_bipush hx hb hdg hq (k ws H locs la _ h2 hL hl (fun v9 hv9 => by rcases List.mem_cons.mp hv9 with rfl | hv9; exact hn; exact hs _ hv9) hm hw hP hD hS hv)
theorem go_sipush (hx : p.tables.exec = Jvm.exec) (hb : c.code = cc) {n : Int} (hn : inI n) (hq : (Int16.ofInt n).toInt32 = Int32.ofInt n) (hd : Dc cc pcs j (.sipush n) 3 nx) (k : Go (fun H locs pc la sv => W p l e Rm s m args below meth c H locs cells slots Q (F0 m pc la sv)) D A tys ad aC nL s pcs S r (nx) (ls) (mI n :: st) (h)) : Go (fun H locs pc la sv => W p l e Rm s m args below meth c H locs cells slots Q (F0 m pc la sv)) D A tys ad aC nL s pcs S r (j) (ls) (st) (h) := by
  intro ws H locs la pc hpc hL hl hs hm hw hP hD hS hv
  obtain ⟨pc0, h1, hdg, h2⟩ := hd
  cases hpc.symm.trans h1
  exact lv_sipush hx hb hdg hq (k ws H locs la _ h2 hL hl (fun v9 hv9 => by rcases List.mem_cons.mp hv9 with rfl | hv9; exact hn; exact hs _ hv9) hm hw hP hD hS hv)
theorem go_ldc (hx : p.tables.exec = Jvm.exec) (hb : c.code = cc) {own : String} {i : Nat} {n : Int} (hn : inI n) (hown : s.vm.findClass own = some m.cls) (hc : (Jvm.Cond.constant own i (Int32.ofInt n)).before args s = true) (hd : Dc cc pcs j (.ldc i) 2 nx) (k : Go (fun H locs pc la sv => W p l e Rm s m args below meth c H locs cells slots Q (F0 m pc la sv)) D A tys ad aC nL s pcs S r (nx) (ls) (mI n :: st) (h)) : Go (fun H locs pc la sv => W p l e Rm s m args below meth c H locs cells slots Q (F0 m pc la sv)) D A tys ad aC nL s pcs S r (j) (ls) (st) (h) := by
  intro ws H locs la pc hpc hL hl hs hm hw hP hD hS hv
  obtain ⟨pc0, h1, hdg, h2⟩ := hd
  cases hpc.symm.trans h1
  exact lv_ldc hx hb hown hc hdg (k ws H locs la _ h2 hL hl (fun v9 hv9 => by rcases List.mem_cons.mp hv9 with rfl | hv9; exact hn; exact hs _ hv9) hm hw hP hD hS hv)
theorem go_ldcw (hx : p.tables.exec = Jvm.exec) (hb : c.code = cc) {own : String} {i : Nat} {n : Int} (hn : inI n) (hown : s.vm.findClass own = some m.cls) (hc : (Jvm.Cond.constant own i (Int32.ofInt n)).before args s = true) (hd : Dc cc pcs j (.ldc_w i) 3 nx) (k : Go (fun H locs pc la sv => W p l e Rm s m args below meth c H locs cells slots Q (F0 m pc la sv)) D A tys ad aC nL s pcs S r (nx) (ls) (mI n :: st) (h)) : Go (fun H locs pc la sv => W p l e Rm s m args below meth c H locs cells slots Q (F0 m pc la sv)) D A tys ad aC nL s pcs S r (j) (ls) (st) (h) := by
  intro ws H locs la pc hpc hL hl hs hm hw hP hD hS hv
  obtain ⟨pc0, h1, hdg, h2⟩ := hd
  cases hpc.symm.trans h1
  exact lv_ldcw hx hb hown hc hdg (k ws H locs la _ h2 hL hl (fun v9 hv9 => by rcases List.mem_cons.mp hv9 with rfl | hv9; exact hn; exact hs _ hv9) hm hw hP hD hS hv)
theorem go_lconst (hx : p.tables.exec = Jvm.exec) (hb : c.code = cc) {f : Fin 2} {n : Int} (hn : inL n) (hq : Int64.ofNat (f : Nat) = Int64.ofInt n) (hd : Dc cc pcs j (.lconst f) 1 nx) (k : Go (fun H locs pc la sv => W p l e Rm s m args below meth c H locs cells slots Q (F0 m pc la sv)) D A tys ad aC nL s pcs S r (nx) (ls) (mL n :: st) (h)) : Go (fun H locs pc la sv => W p l e Rm s m args below meth c H locs cells slots Q (F0 m pc la sv)) D A tys ad aC nL s pcs S r (j) (ls) (st) (h) := by
  intro ws H locs la pc hpc hL hl hs hm hw hP hD hS hv
  obtain ⟨pc0, h1, hdg, h2⟩ := hd
  cases hpc.symm.trans h1
  exact lv_lconst hx hb hdg hq (k ws H locs la _ h2 hL hl (fun v9 hv9 => by rcases List.mem_cons.mp hv9 with rfl | hv9; exact hn; exact hs _ hv9) hm hw hP hD hS hv)
theorem go_ldc2 (hx : p.tables.exec = Jvm.exec) (hb : c.code = cc) {own : String} {i : Nat} {n : Int} (hn : inL n) (hown : s.vm.findClass own = some m.cls) (hc : (Jvm.Cond.constantLong own i (Int64.ofInt n)).before args s = true) (hd : Dc cc pcs j (.ldc2_w i) 3 nx) (k : Go (fun H locs pc la sv => W p l e Rm s m args below meth c H locs cells slots Q (F0 m pc la sv)) D A tys ad aC nL s pcs S r (nx) (ls) (mL n :: st) (h)) : Go (fun H locs pc la sv => W p l e Rm s m args below meth c H locs cells slots Q (F0 m pc la sv)) D A tys ad aC nL s pcs S r (j) (ls) (st) (h) := by
  intro ws H locs la pc hpc hL hl hs hm hw hP hD hS hv
  obtain ⟨pc0, h1, hdg, h2⟩ := hd
  cases hpc.symm.trans h1
  exact lv_ldc2 hx hb hown hc hdg (k ws H locs la _ h2 hL hl (fun v9 hv9 => by rcases List.mem_cons.mp hv9 with rfl | hv9; exact hn; exact hs _ hv9) hm hw hP hD hS hv)
theorem go_iload (hx : p.tables.exec = Jvm.exec) (hb : c.code = cc) {i : Nat} {x : Int} (hk : nth ls i = some (mI x)) (hd : Dc cc pcs j (.iload i) 2 nx) (k : Go (fun H locs pc la sv => W p l e Rm s m args below meth c H locs cells slots Q (F0 m pc la sv)) D A tys ad aC nL s pcs S r (nx) (ls) (mI x :: st) (h)) : Go (fun H locs pc la sv => W p l e Rm s m args below meth c H locs cells slots Q (F0 m pc la sv)) D A tys ad aC nL s pcs S r (j) (ls) (st) (h) := by
  intro ws H locs la pc hpc hL hl hs hm hw hP hD hS hv
  obtain ⟨pc0, h1, hdg, h2⟩ := hd
  cases hpc.symm.trans h1
  exact lv_iload hx hb hdg (hv.2.2 _ (mem_asc.mpr ⟨i, _, hk, (fun q => nomatch q), by rw [Nat.zero_add]⟩)) (k ws H locs la _ h2 hL hl (fun v9 hv9 => by rcases List.mem_cons.mp hv9 with rfl | hv9; exact hl _ (nth_mem hk); exact hs _ hv9) hm hw hP hD hS hv)
theorem go_iload_n (hx : p.tables.exec = Jvm.exec) (hb : c.code = cc) {i : Nat} {x : Int} (hk : nth ls i = some (mI x)) {f : Fin 4} (hf : (f : Nat) = i) (hd : Dc cc pcs j (.iload_n f) 1 nx) (k : Go (fun H locs pc la sv => W p l e Rm s m args below meth c H locs cells slots Q (F0 m pc la sv)) D A tys ad aC nL s pcs S r (nx) (ls) (mI x :: st) (h)) : Go (fun H locs pc la sv => W p l e Rm s m args below meth c H locs cells slots Q (F0 m pc la sv)) D A tys ad aC nL s pcs S r (j) (ls) (st) (h) := by
  intro ws H locs la pc hpc hL hl hs hm hw hP hD hS hv
  obtain ⟨pc0, h1, hdg, h2⟩ := hd
  cases hpc.symm.trans h1
  exact lv_iload_n hx hb hdg hf (hv.2.2 _ (mem_asc.mpr ⟨i, _, hk, (fun q => nomatch q), by rw [Nat.zero_add]⟩)) (k ws H locs la _ h2 hL hl (fun v9 hv9 => by rcases List.mem_cons.mp hv9 with rfl | hv9; exact hl _ (nth_mem hk); exact hs _ hv9) hm hw hP hD hS hv)
theorem go_lload (hx : p.tables.exec = Jvm.exec) (hb : c.code = cc) {i : Nat} {x : Int} (hk : nth ls i = some (mL x)) (hd : Dc cc pcs j (.lload i) 2 nx) (k : Go (fun H locs pc la sv => W p l e Rm s m args below meth c H locs cells slots Q (F0 m pc la sv)) D A tys ad aC nL s pcs S r (nx) (ls) (mL x :: st) (h)) : Go (fun H locs pc la sv => W p l e Rm s m args below meth c H locs cells slots Q (F0 m pc la sv)) D A tys ad aC nL s pcs S r (j) (ls) (st) (h) := by
  intro ws H locs la pc hpc hL hl hs hm hw hP hD hS hv
  obtain ⟨pc0, h1, hdg, h2⟩ := hd
  cases hpc.symm.trans h1
  exact lv_lload hx hb hdg (hv.2.2 _ (mem_asc.mpr ⟨i, _, hk, (fun q => nomatch q), by rw [Nat.zero_add]⟩)) (k ws H locs la _ h2 hL hl (fun v9 hv9 => by rcases List.mem_cons.mp hv9 with rfl | hv9; exact hl _ (nth_mem hk); exact hs _ hv9) hm hw hP hD hS hv)
theorem go_lload_n (hx : p.tables.exec = Jvm.exec) (hb : c.code = cc) {i : Nat} {x : Int} (hk : nth ls i = some (mL x)) {f : Fin 4} (hf : (f : Nat) = i) (hd : Dc cc pcs j (.lload_n f) 1 nx) (k : Go (fun H locs pc la sv => W p l e Rm s m args below meth c H locs cells slots Q (F0 m pc la sv)) D A tys ad aC nL s pcs S r (nx) (ls) (mL x :: st) (h)) : Go (fun H locs pc la sv => W p l e Rm s m args below meth c H locs cells slots Q (F0 m pc la sv)) D A tys ad aC nL s pcs S r (j) (ls) (st) (h) := by
  intro ws H locs la pc hpc hL hl hs hm hw hP hD hS hv
  obtain ⟨pc0, h1, hdg, h2⟩ := hd
  cases hpc.symm.trans h1
  exact lv_lload_n hx hb hdg hf (hv.2.2 _ (mem_asc.mpr ⟨i, _, hk, (fun q => nomatch q), by rw [Nat.zero_add]⟩)) (k ws H locs la _ h2 hL hl (fun v9 hv9 => by rcases List.mem_cons.mp hv9 with rfl | hv9; exact hl _ (nth_mem hk); exact hs _ hv9) hm hw hP hD hS hv)
theorem go_aload (hx : p.tables.exec = Jvm.exec) (hb : c.code = cc) {i : Nat} {x : Nat} (hk : nth ls i = some (mR x)) (hd : Dc cc pcs j (.aload i) 2 nx) (k : Go (fun H locs pc la sv => W p l e Rm s m args below meth c H locs cells slots Q (F0 m pc la sv)) D A tys ad aC nL s pcs S r (nx) (ls) (mR x :: st) (h)) : Go (fun H locs pc la sv => W p l e Rm s m args below meth c H locs cells slots Q (F0 m pc la sv)) D A tys ad aC nL s pcs S r (j) (ls) (st) (h) := by
  intro ws H locs la pc hpc hL hl hs hm hw hP hD hS hv
  obtain ⟨pc0, h1, hdg, h2⟩ := hd
  cases hpc.symm.trans h1
  exact lv_aload hx hb hdg (hv.2.2 _ (mem_asc.mpr ⟨i, _, hk, (fun q => nomatch q), by rw [Nat.zero_add]⟩)) (k ws H locs la _ h2 hL hl (fun v9 hv9 => by rcases List.mem_cons.mp hv9 with rfl | hv9; exact hl _ (nth_mem hk); exact hs _ hv9) hm hw hP hD hS hv)
theorem go_aload_n (hx : p.tables.exec = Jvm.exec) (hb : c.code = cc) {i : Nat} {x : Nat} (hk : nth ls i = some (mR x)) {f : Fin 4} (hf : (f : Nat) = i) (hd : Dc cc pcs j (.aload_n f) 1 nx) (k : Go (fun H locs pc la sv => W p l e Rm s m args below meth c H locs cells slots Q (F0 m pc la sv)) D A tys ad aC nL s pcs S r (nx) (ls) (mR x :: st) (h)) : Go (fun H locs pc la sv => W p l e Rm s m args below meth c H locs cells slots Q (F0 m pc la sv)) D A tys ad aC nL s pcs S r (j) (ls) (st) (h) := by
  intro ws H locs la pc hpc hL hl hs hm hw hP hD hS hv
  obtain ⟨pc0, h1, hdg, h2⟩ := hd
  cases hpc.symm.trans h1
  exact lv_aload_n hx hb hdg hf (hv.2.2 _ (mem_asc.mpr ⟨i, _, hk, (fun q => nomatch q), by rw [Nat.zero_add]⟩)) (k ws H locs la _ h2 hL hl (fun v9 hv9 => by rcases List.mem_cons.mp hv9 with rfl | hv9; exact hl _ (nth_mem hk); exact hs _ hv9) hm hw hP hD hS hv)
theorem go_aloadC (hx : p.tables.exec = Jvm.exec) (hb : c.code = cc) {i x : Nat} (hk : nth ls i = some (mC (x + 1))) (hd : Dc cc pcs j (.aload i) 2 nx) (k : Go (fun H locs pc la sv => W p l e Rm s m args below meth c H locs cells slots Q (F0 m pc la sv)) D A tys ad aC nL s pcs S r (nx) (ls) (mC (x + 1) :: st) (h)) : Go (fun H locs pc la sv => W p l e Rm s m args below meth c H locs cells slots Q (F0 m pc la sv)) D A tys ad aC nL s pcs S r (j) (ls) (st) (h) := by
  intro ws H locs la pc hpc hL hl hs hm hw hP hD hS hv
  obtain ⟨pc0, h1, hdg, h2⟩ := hd
  cases hpc.symm.trans h1
  exact lv_aload hx hb hdg (hv.2.2 _ (mem_asc.mpr ⟨i, _, hk, (fun q => nomatch q), by rw [Nat.zero_add]⟩)) (k ws H locs la _ h2 hL hl (fun v9 hv9 => by rcases List.mem_cons.mp hv9 with rfl | hv9; exact trivial; exact hs _ hv9) hm hw hP hD hS hv)
theorem go_aloadC_n (hx : p.tables.exec = Jvm.exec) (hb : c.code = cc) {i x : Nat} (hk : nth ls i = some (mC (x + 1))) {f : Fin 4} (hf : (f : Nat) = i) (hd : Dc cc pcs j (.aload_n f) 1 nx) (k : Go (fun H locs pc la sv => W p l e Rm s m args below meth c H locs cells slots Q (F0 m pc la sv)) D A tys ad aC nL s pcs S r (nx) (ls) (mC (x + 1) :: st) (h)) : Go (fun H locs pc la sv => W p l e Rm s m args below meth c H locs cells slots Q (F0 m pc la sv)) D A tys ad aC nL s pcs S r (j) (ls) (st) (h) := by
  intro ws H locs la pc hpc hL hl hs hm hw hP hD hS hv
  obtain ⟨pc0, h1, hdg, h2⟩ := hd
  cases hpc.symm.trans h1
  exact lv_aload_n hx hb hdg hf (hv.2.2 _ (mem_asc.mpr ⟨i, _, hk, (fun q => nomatch q), by rw [Nat.zero_add]⟩)) (k ws H locs la _ h2 hL hl (fun v9 hv9 => by rcases List.mem_cons.mp hv9 with rfl | hv9; exact trivial; exact hs _ hv9) hm hw hP hD hS hv)
theorem go_iadd (hx : p.tables.exec = Jvm.exec) (hb : c.code = cc) {x y : Int} (g : inI (x + y)) (hd : Dc cc pcs j (.iadd) 1 nx) (k : Go (fun H locs pc la sv => W p l e Rm s m args below meth c H locs cells slots Q (F0 m pc la sv)) D A tys ad aC nL s pcs S r (nx) (ls) (mI (x + y) :: st) (h)) : Go (fun H locs pc la sv => W p l e Rm s m args below meth c H locs cells slots Q (F0 m pc la sv)) D A tys ad aC nL s pcs S r (j) (ls) (mI y :: mI x :: st) (h) := by
  intro ws H locs la pc hpc hL hl hs hm hw hP hD hS hv
  obtain ⟨pc0, h1, hdg, h2⟩ := hd
  cases hpc.symm.trans h1
  have hx9 := hs _ (List.mem_cons_of_mem _ List.mem_cons_self)
  have hy9 := hs _ List.mem_cons_self
  have k9 := k ws H locs la _ h2 hL hl (fun v9 hv9 => by rcases List.mem_cons.mp hv9 with rfl | hv9; exact g; exact hs _ (List.mem_cons_of_mem _ (List.mem_cons_of_mem _ hv9))) hm hw hP hD hS hv
  have e9 : Int32.ofInt (x + y) = Int32.ofInt x + Int32.ofInt y := Int32.ofInt_add ..
  simp only [List.map_cons, rV, e9] at k9
  exact lv_iadd hx hb hdg  k9
theorem go_isub (hx : p.tables.exec = Jvm.exec) (hb : c.code = cc) {x y : Int} (g : inI (x - y)) (hd : Dc cc pcs j (.isub) 1 nx) (k : Go (fun H locs pc la sv => W p l e Rm s m args below meth c H locs cells slots Q (F0 m pc la sv)) D A tys ad aC nL s pcs S r (nx) (ls) (mI (x - y) :: st) (h)) : Go (fun H locs pc la sv => W p l e Rm s m args below meth c H locs cells slots Q (F0 m pc la sv)) D A tys ad aC nL s pcs S r (j) (ls) (mI y :: mI x :: st) (h) := by
  intro ws H locs la pc hpc hL hl hs hm hw hP hD hS hv
  obtain ⟨pc0, h1, hdg, h2⟩ := hd
  cases hpc.symm.trans h1
  have hx9 := hs _ (List.mem_cons_of_mem _ List.mem_cons_self)
  have hy9 := hs _ List.mem_cons_self
  have k9 := k ws H locs la _ h2 hL hl (fun v9 hv9 => by rcases List.mem_cons.mp hv9 with rfl | hv9; exact g; exact hs _ (List.mem_cons_of_mem _ (List.mem_cons_of_mem _ hv9))) hm hw hP hD hS hv
  have e9 : Int32.ofInt (x - y) = Int32.ofInt x - Int32.ofInt y := Int32.ofInt_sub ..
  simp only [List.map_cons, rV, e9] at k9
  exact lv_isub hx hb hdg  k9
theorem go_imul (hx : p.tables.exec = Jvm.exec) (hb : c.code = cc) {x y : Int} (g : inI (x * y)) (hd : Dc cc pcs j (.imul) 1 nx) (k : Go (fun H locs pc la sv => W p l e Rm s m args below meth c H locs cells slots Q (F0 m pc la sv)) D A tys ad aC nL s pcs S r (nx) (ls) (mI (x * y) :: st) (h)) : Go (fun H locs pc la sv => W p l e Rm s m args below meth c H locs cells slots Q (F0 m pc la sv)) D A tys ad aC nL s pcs S r (j) (ls) (mI y :: mI x :: st) (h) := by
  intro ws H locs la pc hpc hL hl hs hm hw hP hD hS hv
  obtain ⟨pc0, h1, hdg, h2⟩ := hd
  cases hpc.symm.trans h1
  have hx9 := hs _ (List.mem_cons_of_mem _ List.mem_cons_self)
  have hy9 := hs _ List.mem_cons_self
  have k9 := k ws H locs la _ h2 hL hl (fun v9 hv9 => by rcases List.mem_cons.mp hv9 with rfl | hv9; exact g; exact hs _ (List.mem_cons_of_mem _ (List.mem_cons_of_mem _ hv9))) hm hw hP hD hS hv
  have e9 : Int32.ofInt (x * y) = Int32.ofInt x * Int32.ofInt y := Int32.ofInt_mul ..
  simp only [List.map_cons, rV, e9] at k9
  exact lv_imul hx hb hdg  k9
theorem go_ladd (hx : p.tables.exec = Jvm.exec) (hb : c.code = cc) {x y : Int} (g : inL (x + y)) (hd : Dc cc pcs j (.ladd) 1 nx) (k : Go (fun H locs pc la sv => W p l e Rm s m args below meth c H locs cells slots Q (F0 m pc la sv)) D A tys ad aC nL s pcs S r (nx) (ls) (mL (x + y) :: st) (h)) : Go (fun H locs pc la sv => W p l e Rm s m args below meth c H locs cells slots Q (F0 m pc la sv)) D A tys ad aC nL s pcs S r (j) (ls) (mL y :: mL x :: st) (h) := by
  intro ws H locs la pc hpc hL hl hs hm hw hP hD hS hv
  obtain ⟨pc0, h1, hdg, h2⟩ := hd
  cases hpc.symm.trans h1
  have hx9 := hs _ (List.mem_cons_of_mem _ List.mem_cons_self)
  have hy9 := hs _ List.mem_cons_self
  have k9 := k ws H locs la _ h2 hL hl (fun v9 hv9 => by rcases List.mem_cons.mp hv9 with rfl | hv9; exact g; exact hs _ (List.mem_cons_of_mem _ (List.mem_cons_of_mem _ hv9))) hm hw hP hD hS hv
  have e9 : Int64.ofInt (x + y) = Int64.ofInt x + Int64.ofInt y := Int64.ofInt_add ..
  simp only [List.map_cons, rV, e9] at k9
  exact lv_ladd hx hb hdg  k9
theorem go_lsub (hx : p.tables.exec = Jvm.exec) (hb : c.code = cc) {x y : Int} (g : inL (x - y)) (hd : Dc cc pcs j (.lsub) 1 nx) (k : Go (fun H locs pc la sv => W p l e Rm s m args below meth c H locs cells slots Q (F0 m pc la sv)) D A tys ad aC nL s pcs S r (nx) (ls) (mL (x - y) :: st) (h)) : Go (fun H locs pc la sv => W p l e Rm s m args below meth c H locs cells slots Q (F0 m pc la sv)) D A tys ad aC nL s pcs S r (j) (ls) (mL y :: mL x :: st) (h) := by
  intro ws H locs la pc hpc hL hl hs hm hw hP hD hS hv
  obtain ⟨pc0, h1, hdg, h2⟩ := hd
  cases hpc.symm.trans h1
  have hx9 := hs _ (List.mem_cons_of_mem _ List.mem_cons_self)
  have hy9 := hs _ List.mem_cons_self
  have k9 := k ws H locs la _ h2 hL hl (fun v9 hv9 => by rcases List.mem_cons.mp hv9 with rfl | hv9; exact g; exact hs _ (List.mem_cons_of_mem _ (List.mem_cons_of_mem _ hv9))) hm hw hP hD hS hv
  have e9 : Int64.ofInt (x - y) = Int64.ofInt x - Int64.ofInt y := Int64.ofInt_sub ..
  simp only [List.map_cons, rV, e9] at k9
  exact lv_lsub hx hb hdg  k9
theorem go_lmul (hx : p.tables.exec = Jvm.exec) (hb : c.code = cc) {x y : Int} (g : inL (x * y)) (hd : Dc cc pcs j (.lmul) 1 nx) (k : Go (fun H locs pc la sv => W p l e Rm s m args below meth c H locs cells slots Q (F0 m pc la sv)) D A tys ad aC nL s pcs S r (nx) (ls) (mL (x * y) :: st) (h)) : Go (fun H locs pc la sv => W p l e Rm s m args below meth c H locs cells slots Q (F0 m pc la sv)) D A tys ad aC nL s pcs S r (j) (ls) (mL y :: mL x :: st) (h) := by
  intro ws H locs la pc hpc hL hl hs hm hw hP hD hS hv
  obtain ⟨pc0, h1, hdg, h2⟩ := hd
  cases hpc.symm.trans h1
  have hx9 := hs _ (List.mem_cons_of_mem _ List.mem_cons_self)
  have hy9 := hs _ List.mem_cons_self
  have k9 := k ws H locs la _ h2 hL hl (fun v9 hv9 => by rcases List.mem_cons.mp hv9 with rfl | hv9; exact g; exact hs _ (List.mem_cons_of_mem _ (List.mem_cons_of_mem _ hv9))) hm hw hP hD hS hv
  have e9 : Int64.ofInt (x * y) = Int64.ofInt x * Int64.ofInt y := Int64.ofInt_mul ..
  simp only [List.map_cons, rV, e9] at k9
  exact lv_lmul hx hb hdg  k9
theorem go_idiv (hx : p.tables.exec = Jvm.exec) (hb : c.code = cc) {x y : Int} (g : 0 ≤ x ∧ 0 < y) (hd : Dc cc pcs j (.idiv) 1 nx) (k : Go (fun H locs pc la sv => W p l e Rm s m args below meth c H locs cells slots Q (F0 m pc la sv)) D A tys ad aC nL s pcs S r (nx) (ls) (mI (x / y) :: st) (h)) : Go (fun H locs pc la sv => W p l e Rm s m args below meth c H locs cells slots Q (F0 m pc la sv)) D A tys ad aC nL s pcs S r (j) (ls) (mI y :: mI x :: st) (h) := by
  intro ws H locs la pc hpc hL hl hs hm hw hP hD hS hv
  obtain ⟨pc0, h1, hdg, h2⟩ := hd
  cases hpc.symm.trans h1
  have hx9 := hs _ (List.mem_cons_of_mem _ List.mem_cons_self)
  have hy9 := hs _ List.mem_cons_self
  have k9 := k ws H locs la _ h2 hL hl (fun v9 hv9 => by rcases List.mem_cons.mp hv9 with rfl | hv9; exact (div_in hx9 g); exact hs _ (List.mem_cons_of_mem _ (List.mem_cons_of_mem _ hv9))) hm hw hP hD hS hv
  have e9 : Int32.ofInt (x / y) = Int32.ofInt x / Int32.ofInt y := i32_div hx9 hy9 g
  simp only [List.map_cons, rV, e9] at k9
  exact lv_idiv hx hb hdg (i32_ne0 hy9 g.2) k9
theorem go_irem (hx : p.tables.exec = Jvm.exec) (hb : c.code = cc) {x y : Int} (g : 0 ≤ x ∧ 0 < y) (hd : Dc cc pcs j (.irem) 1 nx) (k : Go (fun H locs pc la sv => W p l e Rm s m args below meth c H locs cells slots Q (F0 m pc la sv)) D A tys ad aC nL s pcs S r (nx) (ls) (mI (x % y) :: st) (h)) : Go (fun H locs pc la sv => W p l e Rm s m args below meth c H locs cells slots Q (F0 m pc la sv)) D A tys ad aC nL s pcs S r (j) (ls) (mI y :: mI x :: st) (h) := by
  intro ws H locs la pc hpc hL hl hs hm hw hP hD hS hv
  obtain ⟨pc0, h1, hdg, h2⟩ := hd
  cases hpc.symm.trans h1
  have hx9 := hs _ (List.mem_cons_of_mem _ List.mem_cons_self)
  have hy9 := hs _ List.mem_cons_self
  have k9 := k ws H locs la _ h2 hL hl (fun v9 hv9 => by rcases List.mem_cons.mp hv9 with rfl | hv9; exact (mod_in hy9 g); exact hs _ (List.mem_cons_of_mem _ (List.mem_cons_of_mem _ hv9))) hm hw hP hD hS hv
  have e9 : Int32.ofInt (x % y) = Int32.ofInt x - Int32.ofInt x / Int32.ofInt y * Int32.ofInt y := i32_mod hx9 hy9 g
  simp only [List.map_cons, rV, e9] at k9
  exact lv_irem hx hb hdg (i32_ne0 hy9 g.2) k9
theorem go_ldiv (hx : p.tables.exec = Jvm.exec) (hb : c.code = cc) {x y : Int} (g : 0 ≤ x ∧ 0 < y) (hd : Dc cc pcs j (.ldiv) 1 nx) (k : Go (fun H locs pc la sv => W p l e Rm s m args below meth c H locs cells slots Q (F0 m pc la sv)) D A tys ad aC nL s pcs S r (nx) (ls) (mL (x / y) :: st) (h)) : Go (fun H locs pc la sv => W p l e Rm s m args below meth c H locs cells slots Q (F0 m pc la sv)) D A tys ad aC nL s pcs S r (j) (ls) (mL y :: mL x :: st) (h) := by
  intro ws H locs la pc hpc hL hl hs hm hw hP hD hS hv
  obtain ⟨pc0, h1, hdg, h2⟩ := hd
  cases hpc.symm.trans h1
  have hx9 := hs _ (List.mem_cons_of_mem _ List.mem_cons_self)
  have hy9 := hs _ List.mem_cons_self
  have k9 := k ws H locs la _ h2 hL hl (fun v9 hv9 => by rcases List.mem_cons.mp hv9 with rfl | hv9; exact (divL_in hx9 g); exact hs _ (List.mem_cons_of_mem _ (List.mem_cons_of_mem _ hv9))) hm hw hP hD hS hv
  have e9 : Int64.ofInt (x / y) = Int64.ofInt x / Int64.ofInt y := i64_div hx9 hy9 g
  simp only [List.map_cons, rV, e9] at k9
  exact lv_ldiv hx hb hdg (i64_ne0 hy9 g.2) k9
theorem go_lrem (hx : p.tables.exec = Jvm.exec) (hb : c.code = cc) {x y : Int} (g : 0 ≤ x ∧ 0 < y) (hd : Dc cc pcs j (.lrem) 1 nx) (k : Go (fun H locs pc la sv => W p l e Rm s m args below meth c H locs cells slots Q (F0 m pc la sv)) D A tys ad aC nL s pcs S r (nx) (ls) (mL (x % y) :: st) (h)) : Go (fun H locs pc la sv => W p l e Rm s m args below meth c H locs cells slots Q (F0 m pc la sv)) D A tys ad aC nL s pcs S r (j) (ls) (mL y :: mL x :: st) (h) := by
  intro ws H locs la pc hpc hL hl hs hm hw hP hD hS hv
  obtain ⟨pc0, h1, hdg, h2⟩ := hd
  cases hpc.symm.trans h1
  have hx9 := hs _ (List.mem_cons_of_mem _ List.mem_cons_self)
  have hy9 := hs _ List.mem_cons_self
  have k9 := k ws H locs la _ h2 hL hl (fun v9 hv9 => by rcases List.mem_cons.mp hv9 with rfl | hv9; exact (modL_in hy9 g); exact hs _ (List.mem_cons_of_mem _ (List.mem_cons_of_mem _ hv9))) hm hw hP hD hS hv
  have e9 : Int64.ofInt (x % y) = Int64.ofInt x - Int64.ofInt x / Int64.ofInt y * Int64.ofInt y := i64_mod hx9 hy9 g
  simp only [List.map_cons, rV, e9] at k9
  exact lv_lrem hx hb hdg (i64_ne0 hy9 g.2) k9
theorem go_iand (hx : p.tables.exec = Jvm.exec) (hb : c.code = cc) {x y : Int} (hd : Dc cc pcs j (.iand) 1 nx) (k : Go (fun H locs pc la sv => W p l e Rm s m args below meth c H locs cells slots Q (F0 m pc la sv)) D A tys ad aC nL s pcs S r (nx) (ls) (mI (fAnd x y) :: st) (h)) : Go (fun H locs pc la sv => W p l e Rm s m args below meth c H locs cells slots Q (F0 m pc la sv)) D A tys ad aC nL s pcs S r (j) (ls) (mI y :: mI x :: st) (h) := by
  intro ws H locs la pc hpc hL hl hs hm hw hP hD hS hv
  obtain ⟨pc0, h1, hdg, h2⟩ := hd
  cases hpc.symm.trans h1
  have hx9 := hs _ (List.mem_cons_of_mem _ List.mem_cons_self)
  have hy9 := hs _ List.mem_cons_self
  have k9 := k ws H locs la _ h2 hL hl (fun v9 hv9 => by rcases List.mem_cons.mp hv9 with rfl | hv9; exact (i32_in _); exact hs _ (List.mem_cons_of_mem _ (List.mem_cons_of_mem _ hv9))) hm hw hP hD hS hv
  have e9 : Int32.ofInt (fAnd x y) = Int32.ofInt x &&& Int32.ofInt y := i32_to _
  simp only [List.map_cons, rV, e9] at k9
  exact lv_iand hx hb hdg  k9
theorem go_ior (hx : p.tables.exec = Jvm.exec) (hb : c.code = cc) {x y : Int} (hd : Dc cc pcs j (.ior) 1 nx) (k : Go (fun H locs pc la sv => W p l e Rm s m args below meth c H locs cells slots Q (F0 m pc la sv)) D A tys ad aC nL s pcs S r (nx) (ls) (mI (fOr x y) :: st) (h)) : Go (fun H locs pc la sv => W p l e Rm s m args below meth c H locs cells slots Q (F0 m pc la sv)) D A tys ad aC nL s pcs S r (j) (ls) (mI y :: mI x :: st) (h) := by
  intro ws H locs la pc hpc hL hl hs hm hw hP hD hS hv
  obtain ⟨pc0, h1, hdg, h2⟩ := hd
  cases hpc.symm.trans h1
  have hx9 := hs _ (List.mem_cons_of_mem _ List.mem_cons_self)
  have hy9 := hs _ List.mem_cons_self
  have k9 := k ws H locs la _ h2 hL hl (fun v9 hv9 => by rcases List.mem_cons.mp hv9 with rfl | hv9; exact (i32_in _); exact hs _ (List.mem_cons_of_mem _ (List.mem_cons_of_mem _ hv9))) hm hw hP hD hS hv
  have e9 : Int32.ofInt (fOr x y) = Int32.ofInt x ||| Int32.ofInt y := i32_to _
  simp only [List.map_cons, rV, e9] at k9
  exact lv_ior hx hb hdg  k9
theorem go_ixor (hx : p.tables.exec = Jvm.exec) (hb : c.code = cc) {x y : Int} (hd : Dc cc pcs j (.ixor) 1 nx) (k : Go (fun H locs pc la sv => W p l e Rm s m args below meth c H locs cells slots Q (F0 m pc la sv)) D A tys ad aC nL s pcs S r (nx) (ls) (mI (fXor x y) :: st) (h)) : Go (fun H locs pc la sv => W p l e Rm s m args below meth c H locs cells slots Q (F0 m pc la sv)) D A tys ad aC nL s pcs S r (j) (ls) (mI y :: mI x :: st) (h) := by
  intro ws H locs la pc hpc hL hl hs hm hw hP hD hS hv
  obtain ⟨pc0, h1, hdg, h2⟩ := hd
  cases hpc.symm.trans h1
  have hx9 := hs _ (List.mem_cons_of_mem _ List.mem_cons_self)
  have hy9 := hs _ List.mem_cons_self
  have k9 := k ws H locs la _ h2 hL hl (fun v9 hv9 => by rcases List.mem_cons.mp hv9 with rfl | hv9; exact (i32_in _); exact hs _ (List.mem_cons_of_mem _ (List.mem_cons_of_mem _ hv9))) hm hw hP hD hS hv
  have e9 : Int32.ofInt (fXor x y) = Int32.ofInt x ^^^ Int32.ofInt y := i32_to _
  simp only [List.map_cons, rV, e9] at k9
  exact lv_ixor hx hb hdg  k9
theorem go_ishl (hx : p.tables.exec = Jvm.exec) (hb : c.code = cc) {x y : Int} (hd : Dc cc pcs j (.ishl) 1 nx) (k : Go (fun H locs pc la sv => W p l e Rm s m args below meth c H locs cells slots Q (F0 m pc la sv)) D A tys ad aC nL s pcs S r (nx) (ls) (mI (fShl x y) :: st) (h)) : Go (fun H locs pc la sv => W p l e Rm s m args below meth c H locs cells slots Q (F0 m pc la sv)) D A tys ad aC nL s pcs S r (j) (ls) (mI y :: mI x :: st) (h) := by
  intro ws H locs la pc hpc hL hl hs hm hw hP hD hS hv
  obtain ⟨pc0, h1, hdg, h2⟩ := hd
  cases hpc.symm.trans h1
  have hx9 := hs _ (List.mem_cons_of_mem _ List.mem_cons_self)
  have hy9 := hs _ List.mem_cons_self
  have k9 := k ws H locs la _ h2 hL hl (fun v9 hv9 => by rcases List.mem_cons.mp hv9 with rfl | hv9; exact (i32_in _); exact hs _ (List.mem_cons_of_mem _ (List.mem_cons_of_mem _ hv9))) hm hw hP hD hS hv
  have e9 : Int32.ofInt (fShl x y) = Int32.ofInt x <<< (Int32.ofInt y &&& 31) := i32_to _
  simp only [List.map_cons, rV, e9] at k9
  exact lv_ishl hx hb hdg  k9
theorem go_ishr (hx : p.tables.exec = Jvm.exec) (hb : c.code = cc) {x y : Int} (hd : Dc cc pcs j (.ishr) 1 nx) (k : Go (fun H locs pc la sv => W p l e Rm s m args below meth c H locs cells slots Q (F0 m pc la sv)) D A tys ad aC nL s pcs S r (nx) (ls) (mI (fShr x y) :: st) (h)) : Go (fun H locs pc la sv => W p l e Rm s m args below meth c H locs cells slots Q (F0 m pc la sv)) D A tys ad aC nL s pcs S r (j) (ls) (mI y :: mI x :: st) (h) := by
  intro ws H locs la pc hpc hL hl hs hm hw hP hD hS hv
  obtain ⟨pc0, h1, hdg, h2⟩ := hd
  cases hpc.symm.trans h1
  have hx9 := hs _ (List.mem_cons_of_mem _ List.mem_cons_self)
  have hy9 := hs _ List.mem_cons_self
  have k9 := k ws H locs la _ h2 hL hl (fun v9 hv9 => by rcases List.mem_cons.mp hv9 with rfl | hv9; exact (i32_in _); exact hs _ (List.mem_cons_of_mem _ (List.mem_cons_of_mem _ hv9))) hm hw hP hD hS hv
  have e9 : Int32.ofInt (fShr x y) = Int32.ofInt x >>> (Int32.ofInt y &&& 31) := i32_to _
  simp only [List.map_cons, rV, e9] at k9
  exact lv_ishr hx hb hdg  k9
theorem go_land (hx : p.tables.exec = Jvm.exec) (hb : c.code = cc) {x y : Int} (hd : Dc cc pcs j (.land) 1 nx) (k : Go (fun H locs pc la sv => W p l e Rm s m args below meth c H locs cells slots Q (F0 m pc la sv)) D A tys ad aC nL s pcs S r (nx) (ls) (mL (fLand x y) :: st) (h)) : Go (fun H locs pc la sv => W p l e Rm s m args below meth c H locs cells slots Q (F0 m pc la sv)) D A tys ad aC nL s pcs S r (j) (ls) (mL y :: mL x :: st) (h) := by
  intro ws H locs la pc hpc hL hl hs hm hw hP hD hS hv
  obtain ⟨pc0, h1, hdg, h2⟩ := hd
  cases hpc.symm.trans h1
  have hx9 := hs _ (List.mem_cons_of_mem _ List.mem_cons_self)
  have hy9 := hs _ List.mem_cons_self
  have k9 := k ws H locs la _ h2 hL hl (fun v9 hv9 => by rcases List.mem_cons.mp hv9 with rfl | hv9; exact (i64_in _); exact hs _ (List.mem_cons_of_mem _ (List.mem_cons_of_mem _ hv9))) hm hw hP hD hS hv
  have e9 : Int64.ofInt (fLand x y) = Int64.ofInt x &&& Int64.ofInt y := i64_to _
  simp only [List.map_cons, rV, e9] at k9
  exact lv_land hx hb hdg  k9
theorem go_lor (hx : p.tables.exec = Jvm.exec) (hb : c.code = cc) {x y : Int} (hd : Dc cc pcs j (.lor) 1 nx) (k : Go (fun H locs pc la sv => W p l e Rm s m args below meth c H locs cells slots Q (F0 m pc la sv)) D A tys ad aC nL s pcs S r (nx) (ls) (mL (fLor x y) :: st) (h)) : Go (fun H locs pc la sv => W p l e Rm s m args below meth c H locs cells slots Q (F0 m pc la sv)) D A tys ad aC nL s pcs S r (j) (ls) (mL y :: mL x :: st) (h) := by
  intro ws H locs la pc hpc hL hl hs hm hw hP hD hS hv
  obtain ⟨pc0, h1, hdg, h2⟩ := hd
  cases hpc.symm.trans h1
  have hx9 := hs _ (List.mem_cons_of_mem _ List.mem_cons_self)
  have hy9 := hs _ List.mem_cons_self
  have k9 := k ws H locs la _ h2 hL hl (fun v9 hv9 => by rcases List.mem_cons.mp hv9 with rfl | hv9; exact (i64_in _); exact hs _ (List.mem_cons_of_mem _ (List.mem_cons_of_mem _ hv9))) hm hw hP hD hS hv
  have e9 : Int64.ofInt (fLor x y) = Int64.ofInt x ||| Int64.ofInt y := i64_to _
  simp only [List.map_cons, rV, e9] at k9
  exact lv_lor hx hb hdg  k9
theorem go_iushr (hx : p.tables.exec = Jvm.exec) (hb : c.code = cc) {x y : Int} (hd : Dc cc pcs j (.iushr) 1 nx) (k : Go (fun H locs pc la sv => W p l e Rm s m args below meth c H locs cells slots Q (F0 m pc la sv)) D A tys ad aC nL s pcs S r (nx) (ls) (mI (fUshr x y) :: st) (h)) : Go (fun H locs pc la sv => W p l e Rm s m args below meth c H locs cells slots Q (F0 m pc la sv)) D A tys ad aC nL s pcs S r (j) (ls) (mI y :: mI x :: st) (h) := by
  intro ws H locs la pc hpc hL hl hs hm hw hP hD hS hv
  obtain ⟨pc0, h1, hdg, h2⟩ := hd
  cases hpc.symm.trans h1
  have hx9 := hs _ (List.mem_cons_of_mem _ List.mem_cons_self)
  have hy9 := hs _ List.mem_cons_self
  have k9 := k ws H locs la _ h2 hL hl (fun v9 hv9 => by rcases List.mem_cons.mp hv9 with rfl | hv9; exact (i32_in _); exact hs _ (List.mem_cons_of_mem _ (List.mem_cons_of_mem _ hv9))) hm hw hP hD hS hv
  have e9 : Int32.ofInt (fUshr x y) = ((Int32.ofInt x).toUInt32 >>> ((Int32.ofInt y).toUInt32 &&& Int32.toUInt32 31)).toInt32 := i32_to _
  simp only [List.map_cons, rV, e9] at k9
  exact lv_iushr hx hb hdg rfl k9
theorem go_lshl (hx : p.tables.exec = Jvm.exec) (hb : c.code = cc) {x y : Int} (hd : Dc cc pcs j (.lshl) 1 nx) (k : Go (fun H locs pc la sv => W p l e Rm s m args below meth c H locs cells slots Q (F0 m pc la sv)) D A tys ad aC nL s pcs S r (nx) (ls) (mL (fLshl x y) :: st) (h)) : Go (fun H locs pc la sv => W p l e Rm s m args below meth c H locs cells slots Q (F0 m pc la sv)) D A tys ad aC nL s pcs S r (j) (ls) (mI y :: mL x :: st) (h) := by
  intro ws H locs la pc hpc hL hl hs hm hw hP hD hS hv
  obtain ⟨pc0, h1, hdg, h2⟩ := hd
  cases hpc.symm.trans h1
  have hx9 := hs _ (List.mem_cons_of_mem _ List.mem_cons_self)
  have hy9 := hs _ List.mem_cons_self
  have k9 := k ws H locs la _ h2 hL hl (fun v9 hv9 => by rcases List.mem_cons.mp hv9 with rfl | hv9; exact (i64_in _); exact hs _ (List.mem_cons_of_mem _ (List.mem_cons_of_mem _ hv9))) hm hw hP hD hS hv
  have e9 : Int64.ofInt (fLshl x y) = Int64.ofInt x <<< ((Int32.ofInt y).toInt64 &&& 63) := i64_to _
  simp only [List.map_cons, rV, e9] at k9
  exact lv_lshl hx hb hdg rfl k9
theorem go_i2l (hx : p.tables.exec = Jvm.exec) (hb : c.code = cc) {x : Int} (hd : Dc cc pcs j (.i2l) 1 nx) (k : Go (fun H locs pc la sv => W p l e Rm s m args below meth c H locs cells slots Q (F0 m pc la sv)) D A tys ad aC nL s pcs S r (nx) (ls) (mL x :: st) (h)) : Go (fun H locs pc la sv => W p l e Rm s m args below meth c H locs cells slots Q (F0 m pc la sv)) D A tys ad aC nL s pcs S r (j) (ls) (mI x :: st) (h) := by
  intro ws H locs la pc hpc hL hl hs hm hw hP hD hS hv
  obtain ⟨pc0, h1, hdg, h2⟩ := hd
  cases hpc.symm.trans h1
  have hx9 := hs _ List.mem_cons_self
  have k9 := k ws H locs la _ h2 hL hl (fun v9 hv9 => by rcases List.mem_cons.mp hv9 with rfl | hv9; exact (inL_of hx9); exact hs _ (List.mem_cons_of_mem _ hv9)) hm hw hP hD hS hv
  have e9 : Int64.ofInt x = (Int32.ofInt x).toInt64 := (i2l_eq hx9)
  simp only [List.map_cons, rV, e9] at k9
  exact lv_i2l hx hb hdg rfl k9
theorem go_l2i (hx : p.tables.exec = Jvm.exec) (hb : c.code = cc) {x : Int} (hd : Dc cc pcs j (.l2i) 1 nx) (k : Go (fun H locs pc la sv => W p l e Rm s m args below meth c H locs cells slots Q (F0 m pc la sv)) D A tys ad aC nL s pcs S r (nx) (ls) (mI (fL2i x) :: st) (h)) : Go (fun H locs pc la sv => W p l e Rm s m args below meth c H locs cells slots Q (F0 m pc la sv)) D A tys ad aC nL s pcs S r (j) (ls) (mL x :: st) (h) := by
  intro ws H locs la pc hpc hL hl hs hm hw hP hD hS hv
  obtain ⟨pc0, h1, hdg, h2⟩ := hd
  cases hpc.symm.trans h1
  have hx9 := hs _ List.mem_cons_self
  have k9 := k ws H locs la _ h2 hL hl (fun v9 hv9 => by rcases List.mem_cons.mp hv9 with rfl | hv9; exact (i32_in _); exact hs _ (List.mem_cons_of_mem _ hv9)) hm hw hP hD hS hv
  have e9 : Int32.ofInt (fL2i x) = (Int64.ofInt x).toInt32 := i32_to _
  simp only [List.map_cons, rV, e9] at k9
  exact lv_l2i hx hb hdg rfl k9
theorem go_i2b (hx : p.tables.exec = Jvm.exec) (hb : c.code = cc) {x : Int} (hd : Dc cc pcs j (.i2b) 1 nx) (k : Go (fun H locs pc la sv => W p l e Rm s m args below meth c H locs cells slots Q (F0 m pc la sv)) D A tys ad aC nL s pcs S r (nx) (ls) (mI (fI2b x) :: st) (h)) : Go (fun H locs pc la sv => W p l e Rm s m args below meth c H locs cells slots Q (F0 m pc la sv)) D A tys ad aC nL s pcs S r (j) (ls) (mI x :: st) (h) := by
  intro ws H locs la pc hpc hL hl hs hm hw hP hD hS hv
  obtain ⟨pc0, h1, hdg, h2⟩ := hd
  cases hpc.symm.trans h1
  have hx9 := hs _ List.mem_cons_self
  have k9 := k ws H locs la _ h2 hL hl (fun v9 hv9 => by rcases List.mem_cons.mp hv9 with rfl | hv9; exact (i32_in _); exact hs _ (List.mem_cons_of_mem _ hv9)) hm hw hP hD hS hv
  have e9 : Int32.ofInt (fI2b x) = (Int32.ofInt x).toInt8.toInt32 := i32_to _
  simp only [List.map_cons, rV, e9] at k9
  exact lv_i2b hx hb hdg rfl k9
theorem go_i2s (hx : p.tables.exec = Jvm.exec) (hb : c.code = cc) {x : Int} (hd : Dc cc pcs j (.i2s) 1 nx) (k : Go (fun H locs pc la sv => W p l e Rm s m args below meth c H locs cells slots Q (F0 m pc la sv)) D A tys ad aC nL s pcs S r (nx) (ls) (mI (fI2s x) :: st) (h)) : Go (fun H locs pc la sv => W p l e Rm s m args below meth c H locs cells slots Q (F0 m pc la sv)) D A tys ad aC nL s pcs S r (j) (ls) (mI x :: st) (h) := by
  intro ws H locs la pc hpc hL hl hs hm hw hP hD hS hv
  obtain ⟨pc0, h1, hdg, h2⟩ := hd
  cases hpc.symm.trans h1
  have hx9 := hs _ List.mem_cons_self
  have k9 := k ws H locs la _ h2 hL hl (fun v9 hv9 => by rcases List.mem_cons.mp hv9 with rfl | hv9; exact (i32_in _); exact hs _ (List.mem_cons_of_mem _ hv9)) hm hw hP hD hS hv
  have e9 : Int32.ofInt (fI2s x) = (Int32.ofInt x).toInt16.toInt32 := i32_to _
  simp only [List.map_cons, rV, e9] at k9
  exact lv_i2s hx hb hdg rfl k9
theorem go_dupI (hx : p.tables.exec = Jvm.exec) (hb : c.code = cc) {x : Int} (hd : Dc cc pcs j (.dup) 1 nx) (k : Go (fun H locs pc la sv => W p l e Rm s m args below meth c H locs cells slots Q (F0 m pc la sv)) D A tys ad aC nL s pcs S r (nx) (ls) (mI x :: mI x :: st) (h)) : Go (fun H locs pc la sv => W p l e Rm s m args below meth c H locs cells slots Q (F0 m pc la sv)) D A tys ad aC nL s pcs S r (j) (ls) (mI x :: st) (h) := by
  intro ws H locs la pc hpc hL hl hs hm hw hP hD hS hv
  obtain ⟨pc0, h1, hdg, h2⟩ := hd
  cases hpc.symm.trans h1
  have k9 := k ws H locs la _ h2 hL hl (fun v9 hv9 => hs _ (by revert hv9; simp only [List.mem_cons]; grind)) hm hw hP hD hS hv
  exact lv_dup hx hb hdg rfl k9
theorem go_dupR (hx : p.tables.exec = Jvm.exec) (hb : c.code = cc) {v : Nat ⊕ Nat} (hd : Dc cc pcs j (.dup) 1 nx) (k : Go (fun H locs pc la sv => W p l e Rm s m args below meth c H locs cells slots Q (F0 m pc la sv)) D A tys ad aC nL s pcs S r (nx) (ls) (Sum.inr (Sum.inr v) :: Sum.inr (Sum.inr v) :: st) (h)) : Go (fun H locs pc la sv => W p l e Rm s m args below meth c H locs cells slots Q (F0 m pc la sv)) D A tys ad aC nL s pcs S r (j) (ls) (Sum.inr (Sum.inr v) :: st) (h) := by
  intro ws H locs la pc hpc hL hl hs hm hw hP hD hS hv
  obtain ⟨pc0, h1, hdg, h2⟩ := hd
  cases hpc.symm.trans h1
  have k9 := k ws H locs la _ h2 hL hl (fun v9 hv9 => hs _ (by revert hv9; simp only [List.mem_cons]; grind)) hm hw hP hD hS hv
  cases v <;> exact lv_dup hx hb hdg rfl k9
theorem go_dup2L (hx : p.tables.exec = Jvm.exec) (hb : c.code = cc) {x : Int} (hd : Dc cc pcs j (.dup2) 1 nx) (k : Go (fun H locs pc la sv => W p l e Rm s m args below meth c H locs cells slots Q (F0 m pc la sv)) D A tys ad aC nL s pcs S r (nx) (ls) (mL x :: mL x :: st) (h)) : Go (fun H locs pc la sv => W p l e Rm s m args below meth c H locs cells slots Q (F0 m pc la sv)) D A tys ad aC nL s pcs S r (j) (ls) (mL x :: st) (h) := by
  intro ws H locs la pc hpc hL hl hs hm hw hP hD hS hv
  obtain ⟨pc0, h1, hdg, h2⟩ := hd
  cases hpc.symm.trans h1
  have k9 := k ws H locs la _ h2 hL hl (fun v9 hv9 => hs _ (by revert hv9; simp only [List.mem_cons]; grind)) hm hw hP hD hS hv
  exact lv_dup2_2 hx hb hdg rfl k9
theorem go_dup2I (hx : p.tables.exec = Jvm.exec) (hb : c.code = cc) {x y : Int} (hd : Dc cc pcs j (.dup2) 1 nx) (k : Go (fun H locs pc la sv => W p l e Rm s m args below meth c H locs cells slots Q (F0 m pc la sv)) D A tys ad aC nL s pcs S r (nx) (ls) (mI y :: mI x :: mI y :: mI x :: st) (h)) : Go (fun H locs pc la sv => W p l e Rm s m args below meth c H locs cells slots Q (F0 m pc la sv)) D A tys ad aC nL s pcs S r (j) (ls) (mI y :: mI x :: st) (h) := by
  intro ws H locs la pc hpc hL hl hs hm hw hP hD hS hv
  obtain ⟨pc0, h1, hdg, h2⟩ := hd
  cases hpc.symm.trans h1
  have k9 := k ws H locs la _ h2 hL hl (fun v9 hv9 => hs _ (by revert hv9; simp only [List.mem_cons]; grind)) hm hw hP hD hS hv
  exact lv_dup2_11 hx hb hdg rfl rfl k9
theorem go_dup2R (hx : p.tables.exec = Jvm.exec) (hb : c.code = cc) {y : Int} {v : Nat ⊕ Nat} (hd : Dc cc pcs j (.dup2) 1 nx) (k : Go (fun H locs pc la sv => W p l e Rm s m args below meth c H locs cells slots Q (F0 m pc la sv)) D A tys ad aC nL s pcs S r (nx) (ls) (mI y :: Sum.inr (Sum.inr v) :: mI y :: Sum.inr (Sum.inr v) :: st) (h)) : Go (fun H locs pc la sv => W p l e Rm s m args below meth c H locs cells slots Q (F0 m pc la sv)) D A tys ad aC nL s pcs S r (j) (ls) (mI y :: Sum.inr (Sum.inr v) :: st) (h) := by
  intro ws H locs la pc hpc hL hl hs hm hw hP hD hS hv
  obtain ⟨pc0, h1, hdg, h2⟩ := hd
  cases hpc.symm.trans h1
  have k9 := k ws H locs la _ h2 hL hl (fun v9 hv9 => hs _ (by revert hv9; simp only [List.mem_cons]; grind)) hm hw hP hD hS hv
  cases v <;> exact lv_dup2_11 hx hb hdg rfl rfl k9
theorem go_pop (hx : p.tables.exec = Jvm.exec) (hb : c.code = cc) {x : Int} (hd : Dc cc pcs j (.pop) 1 nx) (k : Go (fun H locs pc la sv => W p l e Rm s m args below meth c H locs cells slots Q (F0 m pc la sv)) D A tys ad aC nL s pcs S r (nx) (ls) (st) (h)) : Go (fun H locs pc la sv => W p l e Rm s m args below meth c H locs cells slots Q (F0 m pc la sv)) D A tys ad aC nL s pcs S r (j) (ls) (mI x :: st) (h) := by
  intro ws H locs la pc hpc hL hl hs hm hw hP hD hS hv
  obtain ⟨pc0, h1, hdg, h2⟩ := hd
  cases hpc.symm.trans h1
  have k9 := k ws H locs la _ h2 hL hl (fun v9 hv9 => hs _ (List.mem_cons_of_mem _ hv9)) hm hw hP hD hS hv
  exact lv_pop hx hb hdg rfl k9
theorem go_goto (hx : p.tables.exec = Jvm.exec) (hb : c.code = cc) {off : Int} {t tg : Nat} (hd : Dc cc pcs j (.goto off) 3 nx) (ht : nth pcs t = some tg) (ho : ∀ pc : Nat, nth pcs j = some pc → (pc : Int) + off = (tg : Int)) (k : Go (fun H locs pc la sv => W p l e Rm s m args below meth c H locs cells slots Q (F0 m pc la sv)) D A tys ad aC nL s pcs S r (t) (ls) (st) (h)) : Go (fun H locs pc la sv => W p l e Rm s m args below meth c H locs cells slots Q (F0 m pc la sv)) D A tys ad aC nL s pcs S r (j) (ls) (st) (h) := by
  intro ws H locs la pc hpc hL hl hs hm hw hP hD hS hv
  obtain ⟨pc0, h1, hdg, h2⟩ := hd
  cases hpc.symm.trans h1
  exact lv_goto hx hb hdg (ho _ hpc) (k ws H locs la _ ht hL hl hs hm hw hP hD hS hv)
theorem go_icmp_eq (hx : p.tables.exec = Jvm.exec) (hb : c.code = cc) {x y : Int} {off : Int} {t tg : Nat} (hd : Dc cc pcs j (.if_icmp .eq off) 3 nx) (ht : nth pcs t = some tg) (ho : ∀ pc : Nat, nth pcs j = some pc → (pc : Int) + off = (tg : Int)) (kt : x = y → Go (fun H locs pc la sv => W p l e Rm s m args below meth c H locs cells slots Q (F0 m pc la sv)) D A tys ad aC nL s pcs S r (t) (ls) (st) (h)) (kf : ¬ x = y → Go (fun H locs pc la sv => W p l e Rm s m args below meth c H locs cells slots Q (F0 m pc la sv)) D A tys ad aC nL s pcs S r (nx) (ls) (st) (h)) : Go (fun H locs pc la sv => W p l e Rm s m args below meth c H locs cells slots Q (F0 m pc la sv)) D A tys ad aC nL s pcs S r (j) (ls) (mI y :: mI x :: st) (h) := by
  intro ws H locs la pc hpc hL hl hs hm hw hP hD hS hv
  obtain ⟨pc0, h1, hdg, h2⟩ := hd
  cases hpc.symm.trans h1
  have hs9 : ∀ v ∈ st, vOk S.length v := fun v9 hv9 => hs _ (List.mem_cons_of_mem _ (List.mem_cons_of_mem _ hv9))
  have hx9 : inI x := hs _ (List.mem_cons_of_mem _ List.mem_cons_self)
  have hy9 : inI y := hs _ List.mem_cons_self
  exact lv_icmp_eq hx hb hdg (ho _ hpc) (fun q => kt ((i32_eq hx9 hy9).mp q) ws H locs la _ ht hL hl hs9 hm hw hP hD hS hv) (fun q => kf (fun z => q ((i32_eq hx9 hy9).mpr z)) ws H locs la _ h2 hL hl hs9 hm hw hP hD hS hv)
theorem go_if_eq (hx : p.tables.exec = Jvm.exec) (hb : c.code = cc) {x : Int} {off : Int} {t tg : Nat} (hd : Dc cc pcs j (.ifCond .eq off) 3 nx) (ht : nth pcs t = some tg) (ho : ∀ pc : Nat, nth pcs j = some pc → (pc : Int) + off = (tg : Int)) (kt : x = 0 → Go (fun H locs pc la sv => W p l e Rm s m args below meth c H locs cells slots Q (F0 m pc la sv)) D A tys ad aC nL s pcs S r (t) (ls) (st) (h)) (kf : ¬ x = 0 → Go (fun H locs pc la sv => W p l e Rm s m args below meth c H locs cells slots Q (F0 m pc la sv)) D A tys ad aC nL s pcs S r (nx) (ls) (st) (h)) : Go (fun H locs pc la sv => W p l e Rm s m args below meth c H locs cells slots Q (F0 m pc la sv)) D A tys ad aC nL s pcs S r (j) (ls) (mI x :: st) (h) := by
  intro ws H locs la pc hpc hL hl hs hm hw hP hD hS hv
  obtain ⟨pc0, h1, hdg, h2⟩ := hd
  cases hpc.symm.trans h1
  have hs9 : ∀ v ∈ st, vOk S.length v := fun v9 hv9 => hs _ (List.mem_cons_of_mem _ hv9)
  have hx9 : inI x := hs _ List.mem_cons_self
  have hy9 : inI 0 := by omega
  exact lv_if_eq hx hb hdg (ho _ hpc) (fun q => kt ((i32_eq hx9 hy9).mp q) ws H locs la _ ht hL hl hs9 hm hw hP hD hS hv) (fun q => kf (fun z => q ((i32_eq hx9 hy9).mpr z)) ws H locs la _ h2 hL hl hs9 hm hw hP hD hS hv)
theorem go_icmp_ne (hx : p.tables.exec = Jvm.exec) (hb : c.code = cc) {x y : Int} {off : Int} {t tg : Nat} (hd : Dc cc pcs j (.if_icmp .ne off) 3 nx) (ht : nth pcs t = some tg) (ho : ∀ pc : Nat, nth pcs j = some pc → (pc : Int) + off = (tg : Int)) (kt : ¬ x = y → Go (fun H locs pc la sv => W p l e Rm s m args below meth c H locs cells slots Q (F0 m pc la sv)) D A tys ad aC nL s pcs S r (t) (ls) (st) (h)) (kf : x = y → Go (fun H locs pc la sv => W p l e Rm s m args below meth c H locs cells slots Q (F0 m pc la sv)) D A tys ad aC nL s pcs S r (nx) (ls) (st) (h)) : Go (fun H locs pc la sv => W p l e Rm s m args below meth c H locs cells slots Q (F0 m pc la sv)) D A tys ad aC nL s pcs S r (j) (ls) (mI y :: mI x :: st) (h) := by
  intro ws H locs la pc hpc hL hl hs hm hw hP hD hS hv
  obtain ⟨pc0, h1, hdg, h2⟩ := hd
  cases hpc.symm.trans h1
  have hs9 : ∀ v ∈ st, vOk S.length v := fun v9 hv9 => hs _ (List.mem_cons_of_mem _ (List.mem_cons_of_mem _ hv9))
  have hx9 : inI x := hs _ (List.mem_cons_of_mem _ List.mem_cons_self)
  have hy9 : inI y := hs _ List.mem_cons_self
  exact lv_icmp_ne hx hb hdg (ho _ hpc) (fun q => kt (fun z => q ((i32_eq hx9 hy9).mpr z)) ws H locs la _ ht hL hl hs9 hm hw hP hD hS hv) (fun q => kf ((i32_eq hx9 hy9).mp q) ws H locs la _ h2 hL hl hs9 hm hw hP hD hS hv)
theorem go_if_ne (hx : p.tables.exec = Jvm.exec) (hb : c.code = cc) {x : Int} {off : Int} {t tg : Nat} (hd : Dc cc pcs j (.ifCond .ne off) 3 nx) (ht : nth pcs t = some tg) (ho : ∀ pc : Nat, nth pcs j = some pc → (pc : Int) + off = (tg : Int)) (kt : ¬ x = 0 → Go (fun H locs pc la sv => W p l e Rm s m args below meth c H locs cells slots Q (F0 m pc la sv)) D A tys ad aC nL s pcs S r (t) (ls) (st) (h)) (kf : x = 0 → Go (fun H locs pc la sv => W p l e Rm s m args below meth c H locs cells slots Q (F0 m pc la sv)) D A tys ad aC nL s pcs S r (nx) (ls) (st) (h)) : Go (fun H locs pc la sv => W p l e Rm s m args below meth c H locs cells slots Q (F0 m pc la sv)) D A tys ad aC nL s pcs S r (j) (ls) (mI x :: st) (h) := by
  intro ws H locs la pc hpc hL hl hs hm hw hP hD hS hv
  obtain ⟨pc0, h1, hdg, h2⟩ := hd
  cases hpc.symm.trans h1
  have hs9 : ∀ v ∈ st, vOk S.length v := fun v9 hv9 => hs _ (List.mem_cons_of_mem _ hv9)
  have hx9 : inI x := hs _ List.mem_cons_self
  have hy9 : inI 0 := by omega
  exact lv_if_ne hx hb hdg (ho _ hpc) (fun q => kt (fun z => q ((i32_eq hx9 hy9).mpr z)) ws H locs la _ ht hL hl hs9 hm hw hP hD hS hv) (fun q => kf ((i32_eq hx9 hy9).mp q) ws H locs la _ h2 hL hl hs9 hm hw hP hD hS hv)
theorem go_icmp_lt (hx : p.tables.exec = Jvm.exec) (hb : c.code = cc) {x y : Int} {off : Int} {t tg : Nat} (hd : Dc cc pcs j (.if_icmp .lt off) 3 nx) (ht : nth pcs t = some tg) (ho : ∀ pc : Nat, nth pcs j = some pc → (pc : Int) + off = (tg : Int)) (kt : x < y → Go (fun H locs pc la sv => W p l e Rm s m args below meth c H locs cells slots Q (F0 m pc la sv)) D A tys ad aC nL s pcs S r (t) (ls) (st) (h)) (kf : ¬ x < y → Go (fun H locs pc la sv => W p l e Rm s m args below meth c H locs cells slots Q (F0 m pc la sv)) D A tys ad aC nL s pcs S r (nx) (ls) (st) (h)) : Go (fun H locs pc la sv => W p l e Rm s m args below meth c H locs cells slots Q (F0 m pc la sv)) D A tys ad aC nL s pcs S r (j) (ls) (mI y :: mI x :: st) (h) := by
  intro ws H locs la pc hpc hL hl hs hm hw hP hD hS hv
  obtain ⟨pc0, h1, hdg, h2⟩ := hd
  cases hpc.symm.trans h1
  have hs9 : ∀ v ∈ st, vOk S.length v := fun v9 hv9 => hs _ (List.mem_cons_of_mem _ (List.mem_cons_of_mem _ hv9))
  have hx9 : inI x := hs _ (List.mem_cons_of_mem _ List.mem_cons_self)
  have hy9 : inI y := hs _ List.mem_cons_self
  exact lv_icmp_lt hx hb hdg (ho _ hpc) (fun q => kt ((i32_lt hx9 hy9).mp q) ws H locs la _ ht hL hl hs9 hm hw hP hD hS hv) (fun q => kf (fun z => q ((i32_lt hx9 hy9).mpr z)) ws H locs la _ h2 hL hl hs9 hm hw hP hD hS hv)
theorem go_if_lt (hx : p.tables.exec = Jvm.exec) (hb : c.code = cc) {x : Int} {off : Int} {t tg : Nat} (hd : Dc cc pcs j (.ifCond .lt off) 3 nx) (ht : nth pcs t = some tg) (ho : ∀ pc : Nat, nth pcs j = some pc → (pc : Int) + off = (tg : Int)) (kt : x < 0 → Go (fun H locs pc la sv => W p l e Rm s m args below meth c H locs cells slots Q (F0 m pc la sv)) D A tys ad aC nL s pcs S r (t) (ls) (st) (h)) (kf : ¬ x < 0 → Go (fun H locs pc la sv => W p l e Rm s m args below meth c H locs cells slots Q (F0 m pc la sv)) D A tys ad aC nL s pcs S r (nx) (ls) (st) (h)) : Go (fun H locs pc la sv => W p l e Rm s m args below meth c H locs cells slots Q (F0 m pc la sv)) D A tys ad aC nL s pcs S r (j) (ls) (mI x :: st) (h) := by
  intro ws H locs la pc hpc hL hl hs hm hw hP hD hS hv
  obtain ⟨pc0, h1, hdg, h2⟩ := hd
  cases hpc.symm.trans h1
  have hs9 : ∀ v ∈ st, vOk S.length v := fun v9 hv9 => hs _ (List.mem_cons_of_mem _ hv9)
  have hx9 : inI x := hs _ List.mem_cons_self
  have hy9 : inI 0 := by omega
  exact lv_if_lt hx hb hdg (ho _ hpc) (fun q => kt ((i32_lt hx9 hy9).mp q) ws H locs la _ ht hL hl hs9 hm hw hP hD hS hv) (fun q => kf (fun z => q ((i32_lt hx9 hy9).mpr z)) ws H locs la _ h2 hL hl hs9 hm hw hP hD hS hv)
theorem go_icmp_ge (hx : p.tables.exec = Jvm.exec) (hb : c.code = cc) {x y : Int} {off : Int} {t tg : Nat} (hd : Dc cc pcs j (.if_icmp .ge off) 3 nx) (ht : nth pcs t = some tg) (ho : ∀ pc : Nat, nth pcs j = some pc → (pc : Int) + off = (tg : Int)) (kt : ¬ x < y → Go (fun H locs pc la sv => W p l e Rm s m args below meth c H locs cells slots Q (F0 m pc la sv)) D A tys ad aC nL s pcs S r (t) (ls) (st) (h)) (kf : x < y → Go (fun H locs pc la sv => W p l e Rm s m args below meth c H locs cells slots Q (F0 m pc la sv)) D A tys ad aC nL s pcs S r (nx) (ls) (st) (h)) : Go (fun H locs pc la sv => W p l e Rm s m args below meth c H locs cells slots Q (F0 m pc la sv)) D A tys ad aC nL s pcs S r (j) (ls) (mI y :: mI x :: st) (h) := by
  intro ws H locs la pc hpc hL hl hs hm hw hP hD hS hv
  obtain ⟨pc0, h1, hdg, h2⟩ := hd
  cases hpc.symm.trans h1
  have hs9 : ∀ v ∈ st, vOk S.length v := fun v9 hv9 => hs _ (List.mem_cons_of_mem _ (List.mem_cons_of_mem _ hv9))
  have hx9 : inI x := hs _ (List.mem_cons_of_mem _ List.mem_cons_self)
  have hy9 : inI y := hs _ List.mem_cons_self
  exact lv_icmp_ge hx hb hdg (ho _ hpc) (fun q => kt (fun z => Int32.not_lt.mpr q ((i32_lt hx9 hy9).mpr z)) ws H locs la _ ht hL hl hs9 hm hw hP hD hS hv) (fun q => kf ((i32_lt hx9 hy9).mp (Int32.not_le.mp q)) ws H locs la _ h2 hL hl hs9 hm hw hP hD hS hv)
theorem go_if_ge (hx : p.tables.exec = Jvm.exec) (hb : c.code = cc) {x : Int} {off : Int} {t tg : Nat} (hd : Dc cc pcs j (.ifCond .ge off) 3 nx) (ht : nth pcs t = some tg) (ho : ∀ pc : Nat, nth pcs j = some pc → (pc : Int) + off = (tg : Int)) (kt : ¬ x < 0 → Go (fun H locs pc la sv => W p l e Rm s m args below meth c H locs cells slots Q (F0 m pc la sv)) D A tys ad aC nL s pcs S r (t) (ls) (st) (h)) (kf : x < 0 → Go (fun H locs pc la sv => W p l e Rm s m args below meth c H locs cells slots Q (F0 m pc la sv)) D A tys ad aC nL s pcs S r (nx) (ls) (st) (h)) : Go (fun H locs pc la sv => W p l e Rm s m args below meth c H locs cells slots Q (F0 m pc la sv)) D A tys ad aC nL s pcs S r (j) (ls) (mI x :: st) (h) := by
  intro ws H locs la pc hpc hL hl hs hm hw hP hD hS hv
  obtain ⟨pc0, h1, hdg, h2⟩ := hd
  cases hpc.symm.trans h1
  have hs9 : ∀ v ∈ st, vOk S.length v := fun v9 hv9 => hs _ (List.mem_cons_of_mem _ hv9)
  have hx9 : inI x := hs _ List.mem_cons_self
  have hy9 : inI 0 := by omega
  exact lv_if_ge hx hb hdg (ho _ hpc) (fun q => kt (fun z => Int32.not_lt.mpr q ((i32_lt hx9 hy9).mpr z)) ws H locs la _ ht hL hl hs9 hm hw hP hD hS hv) (fun q => kf ((i32_lt hx9 hy9).mp (Int32.not_le.mp q)) ws H locs la _ h2 hL hl hs9 hm hw hP hD hS hv)
theorem go_icmp_gt (hx : p.tables.exec = Jvm.exec) (hb : c.code = cc) {x y : Int} {off : Int} {t tg : Nat} (hd : Dc cc pcs j (.if_icmp .gt off) 3 nx) (ht : nth pcs t = some tg) (ho : ∀ pc : Nat, nth pcs j = some pc → (pc : Int) + off = (tg : Int)) (kt : y < x → Go (fun H locs pc la sv => W p l e Rm s m args below meth c H locs cells slots Q (F0 m pc la sv)) D A tys ad aC nL s pcs S r (t) (ls) (st) (h)) (kf : ¬ y < x → Go (fun H locs pc la sv => W p l e Rm s m args below meth c H locs cells slots Q (F0 m pc la sv)) D A tys ad aC nL s pcs S r (nx) (ls) (st) (h)) : Go (fun H locs pc la sv => W p l e Rm s m args below meth c H locs cells slots Q (F0 m pc la sv)) D A tys ad aC nL s pcs S r (j) (ls) (mI y :: mI x :: st) (h) := by
  intro ws H locs la pc hpc hL hl hs hm hw hP hD hS hv
  obtain ⟨pc0, h1, hdg, h2⟩ := hd
  cases hpc.symm.trans h1
  have hs9 : ∀ v ∈ st, vOk S.length v := fun v9 hv9 => hs _ (List.mem_cons_of_mem _ (List.mem_cons_of_mem _ hv9))
  have hx9 : inI x := hs _ (List.mem_cons_of_mem _ List.mem_cons_self)
  have hy9 : inI y := hs _ List.mem_cons_self
  exact lv_icmp_gt hx hb hdg (ho _ hpc) (fun q => kt ((i32_lt hy9 hx9).mp q) ws H locs la _ ht hL hl hs9 hm hw hP hD hS hv) (fun q => kf (fun z => q ((i32_lt hy9 hx9).mpr z)) ws H locs la _ h2 hL hl hs9 hm hw hP hD hS hv)
theorem go_if_gt (hx : p.tables.exec = Jvm.exec) (hb : c.code = cc) {x : Int} {off : Int} {t tg : Nat} (hd : Dc cc pcs j (.ifCond .gt off) 3 nx) (ht : nth pcs t = some tg) (ho : ∀ pc : Nat, nth pcs j = some pc → (pc : Int) + off = (tg : Int)) (kt : 0 < x → Go (fun H locs pc la sv => W p l e Rm s m args below meth c H locs cells slots Q (F0 m pc la sv)) D A tys ad aC nL s pcs S r (t) (ls) (st) (h)) (kf : ¬ 0 < x → Go (fun H locs pc la sv => W p l e Rm s m args below meth c H locs cells slots Q (F0 m pc la sv)) D A tys ad aC nL s pcs S r (nx) (ls) (st) (h)) : Go (fun H locs pc la sv => W p l e Rm s m args below meth c H locs cells slots Q (F0 m pc la sv)) D A tys ad aC nL s pcs S r (j) (ls) (mI x :: st) (h) := by
  intro ws H locs la pc hpc hL hl hs hm hw hP hD hS hv
  obtain ⟨pc0, h1, hdg, h2⟩ := hd
  cases hpc.symm.trans h1
  have hs9 : ∀ v ∈ st, vOk S.length v := fun v9 hv9 => hs _ (List.mem_cons_of_mem _ hv9)
  have hx9 : inI x := hs _ List.mem_cons_self
  have hy9 : inI 0 := by omega
  exact lv_if_gt hx hb hdg (ho _ hpc) (fun q => kt ((i32_lt hy9 hx9).mp q) ws H locs la _ ht hL hl hs9 hm hw hP hD hS hv) (fun q => kf (fun z => q ((i32_lt hy9 hx9).mpr z)) ws H locs la _ h2 hL hl hs9 hm hw hP hD hS hv)
theorem go_icmp_le (hx : p.tables.exec = Jvm.exec) (hb : c.code = cc) {x y : Int} {off : Int} {t tg : Nat} (hd : Dc cc pcs j (.if_icmp .le off) 3 nx) (ht : nth pcs t = some tg) (ho : ∀ pc : Nat, nth pcs j = some pc → (pc : Int) + off = (tg : Int)) (kt : ¬ y < x → Go (fun H locs pc la sv => W p l e Rm s m args below meth c H locs cells slots Q (F0 m pc la sv)) D A tys ad aC nL s pcs S r (t) (ls) (st) (h)) (kf : y < x → Go (fun H locs pc la sv => W p l e Rm s m args below meth c H locs cells slots Q (F0 m pc la sv)) D A tys ad aC nL s pcs S r (nx) (ls) (st) (h)) : Go (fun H locs pc la sv => W p l e Rm s m args below meth c H locs cells slots Q (F0 m pc la sv)) D A tys ad aC nL s pcs S r (j) (ls) (mI y :: mI x :: st) (h) := by
  intro ws H locs la pc hpc hL hl hs hm hw hP hD hS hv
  obtain ⟨pc0, h1, hdg, h2⟩ := hd
  cases hpc.symm.trans h1
  have hs9 : ∀ v ∈ st, vOk S.length v := fun v9 hv9 => hs _ (List.mem_cons_of_mem _ (List.mem_cons_of_mem _ hv9))
  have hx9 : inI x := hs _ (List.mem_cons_of_mem _ List.mem_cons_self)
  have hy9 : inI y := hs _ List.mem_cons_self
  exact lv_icmp_le hx hb hdg (ho _ hpc) (fun q => kt (fun z => Int32.not_lt.mpr q ((i32_lt hy9 hx9).mpr z)) ws H locs la _ ht hL hl hs9 hm hw hP hD hS hv) (fun q => kf ((i32_lt hy9 hx9).mp (Int32.not_le.mp q)) ws H locs la _ h2 hL hl hs9 hm hw hP hD hS hv)
theorem go_if_le (hx : p.tables.exec = Jvm.exec) (hb : c.code = cc) {x : Int} {off : Int} {t tg : Nat} (hd : Dc cc pcs j (.ifCond .le off) 3 nx) (ht : nth pcs t = some tg) (ho : ∀ pc : Nat, nth pcs j = some pc → (pc : Int) + off = (tg : Int)) (kt : ¬ 0 < x → Go (fun H locs pc la sv => W p l e Rm s m args below meth c H locs cells slots Q (F0 m pc la sv)) D A tys ad aC nL s pcs S r (t) (ls) (st) (h)) (kf : 0 < x → Go (fun H locs pc la sv => W p l e Rm s m args below meth c H locs cells slots Q (F0 m pc la sv)) D A tys ad aC nL s pcs S r (nx) (ls) (st) (h)) : Go (fun H locs pc la sv => W p l e Rm s m args below meth c H locs cells slots Q (F0 m pc la sv)) D A tys ad aC nL s pcs S r (j) (ls) (mI x :: st) (h) := by
  intro ws H locs la pc hpc hL hl hs hm hw hP hD hS hv
  obtain ⟨pc0, h1, hdg, h2⟩ := hd
  cases hpc.symm.trans h1
  have hs9 : ∀ v ∈ st, vOk S.length v := fun v9 hv9 => hs _ (List.mem_cons_of_mem _ hv9)
  have hx9 : inI x := hs _ List.mem_cons_self
  have hy9 : inI 0 := by omega
  exact lv_if_le hx hb hdg (ho _ hpc) (fun q => kt (fun z => Int32.not_lt.mpr q ((i32_lt hy9 hx9).mpr z)) ws H locs la _ ht hL hl hs9 hm hw hP hD hS hv) (fun q => kf ((i32_lt hy9 hx9).mp (Int32.not_le.mp q)) ws H locs la _ h2 hL hl hs9 hm hw hP hD hS hv)
end
