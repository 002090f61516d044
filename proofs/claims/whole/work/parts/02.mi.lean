/-! A SMALL MACHINE: values are whole numbers (int, long), the number of a cell, or a constant's number; a heap is shapes, references, numbers -/
abbrev mv := Int ⊕ Int ⊕ Nat ⊕ Nat
abbrev mI (x : Int) : mv := Sum.inl x
abbrev mL (x : Int) : mv := Sum.inr (Sum.inl x)
abbrev mR (a : Nat) : mv := Sum.inr (Sum.inr (Sum.inl a))
abbrev mC (a : Nat) : mv := Sum.inr (Sum.inr (Sum.inr a))
/-- a cell's shape: a class's number, or an array's kind (0 int, 1 long, 2 byte, 3 row of longs, 10 + c: of class c) and length -/
abbrev mSh := List (Nat ⊕ (Nat × Nat))
abbrev mRf := List (List (Option Nat))
abbrev mM := Nat → Int → Int
abbrev mH := mSh × mRf × mM
abbrev mOut := Option (List mv × mH)
/-- an instruction, the place behind it, what it names -/
abbrev mIn := Instr × Nat × List Nat
abbrev mCode := List mIn
def nth {α : Type} : List α → Nat → Option α
  | [], _ => none
  | a :: _, 0 => some a
  | _ :: l, n + 1 => nth l n
def lset {α : Type} : List α → Nat → α → List α
  | [], _, _ => []
  | _ :: l, 0, b => b :: l
  | a :: l, n + 1, b => a :: lset l n b
def upM (h : mM) (a : Nat) (i : Int) (v : Int) : mM := fun a' i' => if a' = a ∧ i' = i then v else h a' i'
abbrev inI (x : Int) : Prop := -2147483648 ≤ x ∧ x ≤ 2147483647
abbrev inL (x : Int) : Prop := -9223372036854775808 ≤ x ∧ x ≤ 9223372036854775807
abbrev inB (x : Int) : Prop := -128 ≤ x ∧ x ≤ 127
abbrev inA (i : Int) (n : Nat) : Prop := 0 ≤ i ∧ i < (n : Int)
def fAnd (x y : Int) : Int := (Int32.ofInt x &&& Int32.ofInt y).toInt
def fOr (x y : Int) : Int := (Int32.ofInt x ||| Int32.ofInt y).toInt
def fXor (x y : Int) : Int := (Int32.ofInt x ^^^ Int32.ofInt y).toInt
def fShl (x y : Int) : Int := (Int32.ofInt x <<< (Int32.ofInt y &&& 31)).toInt
def fShr (x y : Int) : Int := (Int32.ofInt x >>> (Int32.ofInt y &&& 31)).toInt
def fUshr (x y : Int) : Int := ((Int32.ofInt x).toUInt32 >>> ((Int32.ofInt y).toUInt32 &&& Int32.toUInt32 31)).toInt32.toInt
def fLand (x y : Int) : Int := (Int64.ofInt x &&& Int64.ofInt y).toInt
def fLor (x y : Int) : Int := (Int64.ofInt x ||| Int64.ofInt y).toInt
def fLshl (x y : Int) : Int := (Int64.ofInt x <<< ((Int32.ofInt y).toInt64 &&& 63)).toInt
def fL2i (x : Int) : Int := (Int64.ofInt x).toInt32.toInt
def fI2b (x : Int) : Int := (Int32.ofInt x).toInt8.toInt32.toInt
def fI2s (x : Int) : Int := (Int32.ofInt x).toInt16.toInt32.toInt
/-- what stays of a value whose second half a store covers -/
def kl (a : mv) : mv := match a with
  | .inr (.inl _) => mC 0
  | a => a
/-- a store to a place: a long that lay one ahead is gone -/
def stK {ρ : Type} (v : mv) : Nat → List mv → (List mv → Option ρ) → Option ρ
  | 0, _ :: l, K => K (v :: l)
  | 1, a :: _ :: l, K => K (kl a :: v :: l)
  | k + 2, a :: l, K => stK v (k + 1) l (fun l => K (a :: l))
  | _, _, _ => none
/-- a store of a long to a place and the next -/
def stL {ρ : Type} (v : mv) : Nat → List mv → (List mv → Option ρ) → Option ρ
  | 0, _ :: _ :: l, K => K (v :: mC 0 :: l)
  | 1, a :: _ :: _ :: l, K => K (kl a :: v :: mC 0 :: l)
  | k + 2, a :: l, K => stL v (k + 1) l (fun l => K (a :: l))
  | _, _, _ => none
def mEntry : List mv → List mv
  | [] => []
  | .inr (.inl x) :: r => mL x :: mC 0 :: mEntry r
  | v :: r => v :: mEntry r
def mPad : Nat → List mv → List mv
  | 0, _ => []
  | n + 1, [] => mC 0 :: mPad n []
  | n + 1, v :: r => v :: mPad n r
def mObj (s : mSh) (a ci : Nat) : Bool := match nth s a with
  | some (.inl c) => Nat.beq c ci
  | _ => false
/-- an array's length, if it is of that kind -/
def mArr (s : mSh) (a ty : Nat) : Option Nat := match nth s a with
  | some (.inr (t, n)) => match Nat.beq t ty with
    | true => some n
    | false => none
  | _ => none
/-- n cells of a shape more -/
def mTake : Nat → List mv → List mv → Option (List mv × List mv)
  | 0, acc, st => some (acc, st)
  | n + 1, acc, v :: st => mTake n (v :: acc) st
  | _ + 1, _, [] => none
def mCpy (h : mM) (a : Nat) (i : Int) (b : Nat) (j n : Int) : mM := fun a' k => if a' = b ∧ j ≤ k ∧ k < j + n then h a (i + (k - j)) else h a' k
def mCpyC (h : mM) (l : List Int) (i : Int) (b : Nat) (j n : Int) : mM := fun a' k => if a' = b ∧ j ≤ k ∧ k < j + n then (nth l (i + (k - j)).toNat).getD 0 else h a' k
/-- how many words lie on the stack -/
def wds : List mv → Nat
  | [] => 0
  | .inr (.inl _) :: r => wds r + 2
  | _ :: r => wds r + 1
/-- the receiver is an object of that class (0: none is asked) -/
def rcv (S : mSh) : Nat → List mv → Bool
  | 0, _ => true
  | c + 1, .inr (.inr (.inl a)) :: _ => mObj S a c
  | _ + 1, _ => false
/-- few words -/
def few {ρ : Type} (st : List mv) (k : Option ρ) : Option ρ := match Nat.ble (wds st) 8 with
  | true => k
  | false => none
/-- behind a call: what came back -/
def cV {ρ : Type} (o : Option (List mv × mM)) (K : mM → Option ρ) : Option ρ := match o with
  | some ([], h) => K h
  | _ => none
def cI {ρ : Type} (o : Option (List mv × mM)) (K : Int → mM → Option ρ) : Option ρ := match o with
  | some ([.inl v], h) => K v h
  | _ => none
def cL {ρ : Type} (o : Option (List mv × mM)) (K : Int → mM → Option ρ) : Option ρ := match o with
  | some ([.inr (.inl v)], h) => K v h
  | _ => none
def cR {ρ : Type} (o : Option (List mv × mM)) (K : Nat → mM → Option ρ) : Option ρ := match o with
  | some ([.inr (.inr (.inl v))], h) => K v h
  | _ => none
section
variable {ρ : Type}
def pB (c : Nat) (x y : Int) (A B : Option ρ) : Option ρ := match c with
  | 0 => if x = y then A else B
  | 1 => if x = y then B else A
  | 2 => if x < y then A else B
  | 3 => if x < y then B else A
  | 4 => if y < x then A else B
  | _ => if y < x then B else A
def pSw (x : Int) (N : Nat → Option ρ) (d : Nat) : Int → List Nat → Option ρ
  | _, [] => N d
  | lo, t :: ts => if x = lo then N t else pSw x N d (lo + 1) ts
def pLk (x : Int) (N : Nat → Option ρ) (d : Nat) : List Nat → Option ρ
  | k :: t :: r => if x = (k : Int) then N t else pLk x N d r
  | _ => N d
/-- ONE INSTRUCTION that makes no cell and moves no reference -/
def ex1 (S : mSh) (R : List (List (Option Nat))) (ct : Nat → List Int) (cl : Nat → Nat → List mv → mM → Option (List mv × mM)) (ret : List mv → mM → Option ρ) (N : Nat → List mv → List mv → mM → Option ρ) (i : mIn) (ls st : List mv) (h : mM) : Option ρ :=
  match i.1 with
  | .iconst n => N i.2.1 ls (mI n :: st) h
  | .sipush n => N i.2.1 ls (mL n :: st) h
  | .ldc k => N i.2.1 ls (mC k :: st) h
  | .iload k => match nth ls k with
    | some (.inl x) => N i.2.1 ls (mI x :: st) h
    | _ => none
  | .lload k => match nth ls k with
    | some (.inr (.inl x)) => N i.2.1 ls (mL x :: st) h
    | _ => none
  | .aload k => match nth ls k with
    | some (.inr (.inr (.inl a))) => N i.2.1 ls (mR a :: st) h
    | some (.inr (.inr (.inr (a + 1)))) => N i.2.1 ls (mC (a + 1) :: st) h
    | _ => none
  | .istore k => match st with
    | .inl x :: st => stK (mI x) k ls (fun ls => N i.2.1 ls st h)
    | _ => none
  | .lstore k => match st with
    | .inr (.inl x) :: st => stL (mL x) k ls (fun ls => N i.2.1 ls st h)
    | _ => none
  | .astore k => match st with
    | .inr (.inr (.inl a)) :: st => stK (mR a) k ls (fun ls => N i.2.1 ls st h)
    | _ => none
  | .iinc k n => match nth ls k with
    | some (.inl x) => if inI (x + n) then stK (mI (x + n)) k ls (fun ls => N i.2.1 ls st h) else none
    | _ => none
  | .iadd => match st with
    | .inl y :: .inl x :: st => if inI (x + y) then N i.2.1 ls (mI (x + y) :: st) h else none
    | _ => none
  | .isub => match st with
    | .inl y :: .inl x :: st => if inI (x - y) then N i.2.1 ls (mI (x - y) :: st) h else none
    | _ => none
  | .imul => match st with
    | .inl y :: .inl x :: st => if inI (x * y) then N i.2.1 ls (mI (x * y) :: st) h else none
    | _ => none
  | .idiv => match st with
    | .inl y :: .inl x :: st => if 0 ≤ x ∧ 0 < y then N i.2.1 ls (mI (x / y) :: st) h else none
    | _ => none
  | .irem => match st with
    | .inl y :: .inl x :: st => if 0 ≤ x ∧ 0 < y then N i.2.1 ls (mI (x % y) :: st) h else none
    | _ => none
  | .ladd => match st with
    | .inr (.inl y) :: .inr (.inl x) :: st => if inL (x + y) then N i.2.1 ls (mL (x + y) :: st) h else none
    | _ => none
  | .lsub => match st with
    | .inr (.inl y) :: .inr (.inl x) :: st => if inL (x - y) then N i.2.1 ls (mL (x - y) :: st) h else none
    | _ => none
  | .lmul => match st with
    | .inr (.inl y) :: .inr (.inl x) :: st => if inL (x * y) then N i.2.1 ls (mL (x * y) :: st) h else none
    | _ => none
  | .ldiv => match st with
    | .inr (.inl y) :: .inr (.inl x) :: st => if 0 ≤ x ∧ 0 < y then N i.2.1 ls (mL (x / y) :: st) h else none
    | _ => none
  | .lrem => match st with
    | .inr (.inl y) :: .inr (.inl x) :: st => if 0 ≤ x ∧ 0 < y then N i.2.1 ls (mL (x % y) :: st) h else none
    | _ => none
  | .iand => match st with
    | .inl y :: .inl x :: st => N i.2.1 ls (mI (fAnd x y) :: st) h
    | _ => none
  | .ior => match st with
    | .inl y :: .inl x :: st => N i.2.1 ls (mI (fOr x y) :: st) h
    | _ => none
  | .ixor => match st with
    | .inl y :: .inl x :: st => N i.2.1 ls (mI (fXor x y) :: st) h
    | _ => none
  | .ishl => match st with
    | .inl y :: .inl x :: st => N i.2.1 ls (mI (fShl x y) :: st) h
    | _ => none
  | .ishr => match st with
    | .inl y :: .inl x :: st => N i.2.1 ls (mI (fShr x y) :: st) h
    | _ => none
  | .iushr => match st with
    | .inl y :: .inl x :: st => N i.2.1 ls (mI (fUshr x y) :: st) h
    | _ => none
  | .land => match st with
    | .inr (.inl y) :: .inr (.inl x) :: st => N i.2.1 ls (mL (fLand x y) :: st) h
    | _ => none
  | .lor => match st with
    | .inr (.inl y) :: .inr (.inl x) :: st => N i.2.1 ls (mL (fLor x y) :: st) h
    | _ => none
  | .lshl => match st with
    | .inl y :: .inr (.inl x) :: st => N i.2.1 ls (mL (fLshl x y) :: st) h
    | _ => none
  | .i2l => match st with
    | .inl x :: st => N i.2.1 ls (mL x :: st) h
    | _ => none
  | .l2i => match st with
    | .inr (.inl x) :: st => N i.2.1 ls (mI (fL2i x) :: st) h
    | _ => none
  | .i2b => match st with
    | .inl x :: st => N i.2.1 ls (mI (fI2b x) :: st) h
    | _ => none
  | .i2s => match st with
    | .inl x :: st => N i.2.1 ls (mI (fI2s x) :: st) h
    | _ => none
  | .dup => match st with
    | .inl x :: st => N i.2.1 ls (mI x :: mI x :: st) h
    | .inr (.inr v) :: st => N i.2.1 ls (.inr (.inr v) :: .inr (.inr v) :: st) h
    | _ => none
  | .dup2 => match st with
    | .inr (.inl x) :: st => N i.2.1 ls (mL x :: mL x :: st) h
    | .inl y :: .inl x :: st => N i.2.1 ls (mI y :: mI x :: mI y :: mI x :: st) h
    | .inl y :: .inr (.inr x) :: st => N i.2.1 ls (mI y :: .inr (.inr x) :: mI y :: .inr (.inr x) :: st) h
    | _ => none
  | .pop => match st with
    | .inl _ :: st => N i.2.1 ls st h
    | _ => none
  | .ifCond _ _ => match st, i.2.2 with
    | .inl x :: st, [c, t] => pB c x 0 (N t ls st h) (N i.2.1 ls st h)
    | _, _ => none
  | .if_icmp _ _ => match st, i.2.2 with
    | .inl y :: .inl x :: st, [c, t] => pB c x y (N t ls st h) (N i.2.1 ls st h)
    | _, _ => none
  | .lcmp => match st, i.2.2 with
    | .inr (.inl y) :: .inr (.inl x) :: st, [c, t] => pB c x y (N t ls st h) (N i.2.1 ls st h)
    | _, _ => none
  | .goto _ => match i.2.2 with
    | [t] => N t ls st h
    | _ => none
  | .tableswitch _ lo _ _ => match st, i.2.2 with
    | .inl x :: st, d :: ts => pSw x (fun t => N t ls st h) d lo ts
    | _, _ => none
  | .lookupswitch _ _ => match st, i.2.2 with
    | .inl x :: st, d :: ts => pLk x (fun t => N t ls st h) d ts
    | _, _ => none
  | .getfield k => match st, i.2.2 with
    | .inr (.inr (.inl a)) :: st, [ci, ty] => match mObj S a ci with
      | true => match ty with
        | 0 => N i.2.1 ls (mI (h a (k : Int)) :: st) h
        | 1 => N i.2.1 ls (mL (h a (k : Int)) :: st) h
        | 2 => match nth R a with
          | some l => match nth l k with
            | some (some b) => N i.2.1 ls (mR b :: st) h
            | _ => none
          | none => none
        | _ => none
      | false => none
    | _, _ => none
  | .putfield k => match i.2.2 with
    | [ci, ty] => match ty with
      | 0 => match st with
        | .inl x :: .inr (.inr (.inl a)) :: st => match mObj S a ci with
          | true => N i.2.1 ls st (upM h a (k : Int) x)
          | false => none
        | _ => none
      | 1 => match st with
        | .inr (.inl x) :: .inr (.inr (.inl a)) :: st => match mObj S a ci with
          | true => N i.2.1 ls st (upM h a (k : Int) x)
          | false => none
        | _ => none
      | 3 => match st with
        | .inl x :: .inr (.inr (.inl a)) :: st => match mObj S a ci with
          | true => if 0 ≤ x ∧ x ≤ 1 then N i.2.1 ls st (upM h a (k : Int) x) else none
          | false => none
        | _ => none
      | _ => none
    | _ => none
  | .iaload => match st with
    | .inl x :: .inr (.inr (.inl a)) :: st => match mArr S a 0 with
      | some n => if inA x n then N i.2.1 ls (mI (h a x) :: st) h else none
      | none => none
    | .inl x :: .inr (.inr (.inr (k + 1))) :: st => match Nat.ble k 3 with
      | true => if inA x (ct (k + 1)).length then N i.2.1 ls (mI ((nth (ct (k + 1)) x.toNat).getD 0) :: st) h else none
      | false => none
    | _ => none
  | .laload => match st with
    | .inl x :: .inr (.inr (.inl a)) :: st => match mArr S a 1 with
      | some n => if inA x n then N i.2.1 ls (mL (h a x) :: st) h else none
      | none => none
    | _ => none
  | .baload => match st with
    | .inl x :: .inr (.inr (.inl a)) :: st => match mArr S a 2 with
      | some n => if inA x n then N i.2.1 ls (mI (h a x) :: st) h else none
      | none => none
    | _ => none
  | .aaload => match st, i.2.2 with
    | .inl x :: .inr (.inr (.inl a)) :: st, [ty] => match mArr S a ty with
      | some n => match nth R a with
        | some l => match nth l x.toNat with
          | some (some b) => if inA x n then N i.2.1 ls (mR b :: st) h else none
          | _ => none
        | none => none
      | none => none
    | _, _ => none
  | .iastore => match st with
    | .inl v :: .inl x :: .inr (.inr (.inl a)) :: st => match mArr S a 0 with
      | some n => if inA x n then N i.2.1 ls st (upM h a x v) else none
      | none => none
    | _ => none
  | .lastore => match st with
    | .inr (.inl v) :: .inl x :: .inr (.inr (.inl a)) :: st => match mArr S a 1 with
      | some n => if inA x n then N i.2.1 ls st (upM h a x v) else none
      | none => none
    | _ => none
  | .bastore => match st with
    | .inl v :: .inl x :: .inr (.inr (.inl a)) :: st => match mArr S a 2 with
      | some n => if inA x n then if inB v then N i.2.1 ls st (upM h a x v) else none else none
      | none => none
    | _ => none
  | .arraylength => match st, i.2.2 with
    | .inr (.inr (.inr (k + 1))) :: st, [t] => match t with
      | 0 => match Nat.ble k 3 with
        | true => few st (N i.2.1 ls (mI ((ct (k + 1)).length : Int) :: st) h)
        | false => none
      | _ => match (Nat.ble 4 k).and (Nat.ble k 5) with
        | true => few st (N i.2.1 ls (mI ((ct (k + 1)).length : Int) :: st) h)
        | false => none
    | _, _ => none
  | .caload => match st with
    | .inl x :: .inr (.inr (.inr (k + 1))) :: st => match (Nat.ble 4 k).and (Nat.ble k 5) with
      | true => few st (if inA x (ct (k + 1)).length then N i.2.1 ls (mI ((nth (ct (k + 1)) x.toNat).getD 0) :: st) h else none)
      | false => none
    | _ => none
  | .dadd => match st with
    | .inl y :: .inl x :: st => few st (N i.2.1 ls (mI (max x y) :: st) h)
    | _ => none
  | .dsub => match st with
    | .inl y :: .inl x :: st => few st (N i.2.1 ls (mI (min x y) :: st) h)
    | _ => none
  | .dneg => match st with
    | .inl x :: st => few st (if inI (-x) then N i.2.1 ls (mI (if x < 0 then -x else x) :: st) h else none)
    | _ => none
  | .dmul => match st with
    | .inr (.inl y) :: .inr (.inl x) :: st => few st (N i.2.1 ls (mL (max x y) :: st) h)
    | _ => none
  | .swap => match st, i.2.2 with
    | .inl n :: .inl y :: .inr (.inr (.inl b)) :: .inl x :: .inr (.inr (.inl a)) :: st, [ty] => match mArr S a ty with
      | some na => match mArr S b ty with
        | some nb => few st (if (0 ≤ n ∧ 0 ≤ x ∧ 0 ≤ y) ∧ x + n ≤ (na : Int) ∧ y + n ≤ (nb : Int) then N i.2.1 ls st (mCpy h a x b y n) else none)
        | none => none
      | none => none
    | .inl n :: .inl y :: .inr (.inr (.inl b)) :: .inl x :: .inr (.inr (.inr (k + 1))) :: st, [_] => match Nat.ble k 3 with
      | true => match mArr S b 0 with
        | some nb => few st (if (0 ≤ n ∧ 0 ≤ x ∧ 0 ≤ y) ∧ x + n ≤ ((ct (k + 1)).length : Int) ∧ y + n ≤ (nb : Int) then N i.2.1 ls st (mCpyC h (ct (k + 1)) x b y n) else none)
        | none => none
      | false => none
    | _, _ => none
  | .invokestatic id => match i.2.2 with
    | [na, fl, kd, w, rc] => match mTake na [] st with
      | some (args, rest) => match (Nat.ble (wds args) w).and (rcv S rc args) with
        | true => few rest (match kd with
          | 0 => cV (cl id fl args h) (fun h' => N i.2.1 ls rest h')
          | 1 => cI (cl id fl args h) (fun v h' => N i.2.1 ls (mI v :: rest) h')
          | 2 => cL (cl id fl args h) (fun v h' => N i.2.1 ls (mL v :: rest) h')
          | 3 => cR (cl id fl args h) (fun v h' => N i.2.1 ls (mR v :: rest) h')
          | _ => none)
        | false => none
      | none => none
    | _ => none
  | .ireturn => match st, i.2.2 with
    | [.inl x], [ty] => match ty with
      | 0 => ret [mI x] h
      | _ => if 0 ≤ x ∧ x ≤ 1 then ret [mI x] h else none
    | _, _ => none
  | .lreturn => match st with
    | [.inr (.inl x)] => ret [mL x] h
    | _ => none
  | .areturn => match st with
    | [.inr (.inr (.inl a))] => ret [mR a] h
    | _ => none
  | .return_ => match st with
    | [] => ret [] h
    | _ => none
  | _ => none
end
/-- a program: of a method's number its code and how many locals it has -/
abbrev mPr := Nat → mCode × Nat
section
variable (P : mPr) (S : mSh) (R : List (List (Option Nat))) (ct : Nat → List Int)
/-- so many steps at most, so deep at most -/
def exN : Nat → Nat → mCode → Nat → List mv → List mv → mM → Option (List mv × mM)
  | 0, _, _, _, _, _, _ => none
  | n + 1, d, c, j, ls, st, h => match nth c j with
    | none => none
    | some i => ex1 S R ct (fun id fl args h => match fl, d with
        | 0, d => exN n d (P id).1 0 (mPad (P id).2 (mEntry args)) [] h
        | _, d + 1 => exN n d (P id).1 0 (mPad (P id).2 (mEntry args)) [] h
        | _, 0 => none) (fun v h => some (v, h)) (exN n d c) i ls st h
/-- where it comes to, however many steps it takes -/
noncomputable def Ex (d : Nat) (c : mCode) (j : Nat) (ls st : List mv) (h : mM) : Option (List mv × mM) :=
  @dite _ (∃ r n, exN P S R ct n d c j ls st h = some r) (Classical.propDecidable _) (fun q => some (Classical.choose q)) (fun _ => none)
noncomputable def Cl (d : Nat) (id fl : Nat) (args : List mv) (h : mM) : Option (List mv × mM) := match fl, d with
  | 0, d => Ex P S R ct d (P id).1 0 (mPad (P id).2 (mEntry args)) [] h
  | _, d + 1 => Ex P S R ct d (P id).1 0 (mPad (P id).2 (mEntry args)) [] h
  | _, 0 => none
end
