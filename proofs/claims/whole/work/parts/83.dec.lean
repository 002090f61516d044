/-! A FAST READING OF THE BYTES -/
/-- the list from each 64th place on -/
def nthR {α : Type} : Nat → List α → List (List α)
  | 0, _ => []
  | n + 1, l => l :: nthR n (l.drop 64)
theorem nthR_at {α : Type} : ∀ {n : Nat} {l : List α} {q : Nat} {r : List α}, nth (nthR n l) q = some r → r = l.drop (64 * q)
  | 0, _, q, _, h => by cases q <;> cases h
  | n + 1, l, 0, r, h => by
    cases h
    rfl
  | n + 1, l, q + 1, r, h => by
    have := nthR_at (n := n) (l := l.drop 64) (q := q) h
    rw [this, List.drop_drop]
    congr 1
    omega
/-- a place by two short walks -/
def nth2 {α : Type} (l : List α) (k : Nat) : Option α := match Nat.blt k 64 with
  | true => nth l k
  | false => match nth (nthR 64 l) (k / 64) with
    | some r => nth r (k % 64)
    | none => nth l k
theorem nth2_eq {α : Type} (l : List α) (k : Nat) : nth2 l k = nth l k := by
  unfold nth2
  split
  · rfl
  · split
    · next r h =>
      rw [nthR_at h, nth_get, nth_get, List.getElem?_drop, Nat.div_add_mod]
    · rfl
def bAt (cc : ByteArray) (p : Nat) : Nat := match nth2 cc.data.toList p with
  | some b => b.toNat
  | none => 256
theorem u1_at {cc : ByteArray} {p b : Nat} (h : bAt cc p = b) (hb : b < 256) : (Reader.u1 : Reader DecodeError Nat) cc p = .ok (b, p + 1) := by
  unfold bAt at h
  rw [nth2_eq] at h
  cases e : nth cc.data.toList p with
  | none =>
    rw [e] at h
    exact absurd (show 256 = b from h) (by omega)
  | some x =>
    rw [e] at h
    have h1 : x.toNat = b := h
    have h0 := nth_lt e
    have hl : p < cc.data.size := by simpa using h0
    have hx : cc.data[p] = x := by
      rw [nth_get] at e
      have e2 := (List.getElem?_eq_some_iff.mp e).2
      simpa using e2
    have q : (Reader.u1 : Reader DecodeError Nat) cc p = (if h : p < cc.size then (do set (p + 1); pure cc[p].toNat : Reader DecodeError Nat) else throw (HasTruncated.truncated p)) cc p := rfl
    rw [q, dif_pos (show p < cc.size from hl)]
    show (Except.ok (cc.data[p].toNat, p + 1) : Except DecodeError (Nat × Nat)) = _
    rw [hx, h1]
def KK (pc : Nat) : {K : Nat → Decoder Instr // Decoder.instr pc = (Reader.u1 >>= K)} := ⟨_, rfl⟩
theorem bind_ok {α β : Type} {x : Reader DecodeError α} {f : α → Reader DecodeError β} {cc : ByteArray} {p q : Nat} {a : α} (h : x cc p = .ok (a, q)) : (x >>= f) cc p = f a cc q := by
  have e : (x >>= f) cc p = Except.bind (x cc p) (fun v => f v.1 cc v.2) := rfl
  rw [e, h]
  rfl
theorem dec_ok {cc : ByteArray} {pc b nx : Nat} {i : Instr} (h : bAt cc pc = b) (hb : b < 256) (hK : (KK pc).1 b cc (pc + 1) = .ok (i, nx)) : decode cc pc = .ok (i, nx - pc) := by
  have e : decode cc pc = Except.bind (Decoder.instr pc cc pc) (fun v => .ok (v.1, v.2 - pc)) := rfl
  rw [e, (KK pc).2, bind_ok (u1_at h hb), hK]
  rfl
theorem s1_at {cc : ByteArray} {p b : Nat} (h : bAt cc p = b) (hb : b < 256) : (Reader.s1 : Reader DecodeError Int) cc p = .ok (Reader.signed 8 b, p + 1) := by
  have e : (Reader.s1 : Reader DecodeError Int) cc p = Except.bind ((Reader.u1 : Reader DecodeError Nat) cc p) (fun v => .ok (Reader.signed 8 v.1, v.2)) := rfl
  rw [e, u1_at h hb]
  rfl
theorem u2_at {cc : ByteArray} {p b d : Nat} (h : bAt cc p = b) (hb : b < 256) (h2 : bAt cc (p + 1) = d) (hd : d < 256) : (Reader.u2 : Reader DecodeError Nat) cc p = .ok (b * 256 + d, p + 2) := by
  have e : (Reader.u2 : Reader DecodeError Nat) = (Reader.u1 >>= fun hi => Reader.u1 >>= fun lo => pure (hi * 256 + lo)) := rfl
  rw [e, bind_ok (u1_at h hb), bind_ok (u1_at h2 hd)]
  rfl
theorem s2_at {cc : ByteArray} {p b d : Nat} (h : bAt cc p = b) (hb : b < 256) (h2 : bAt cc (p + 1) = d) (hd : d < 256) : (Reader.s2 : Reader DecodeError Int) cc p = .ok (Reader.signed 16 (b * 256 + d), p + 2) := by
  have e : (Reader.s2 : Reader DecodeError Int) cc p = Except.bind ((Reader.u2 : Reader DecodeError Nat) cc p) (fun v => .ok (Reader.signed 16 v.1, v.2)) := rfl
  rw [e, u2_at h hb h2 hd]
  rfl
theorem dec_r {α : Type} {r : Decoder α} {f : α → Instr} {v : α} {cc : ByteArray} {pc b w : Nat} (h : bAt cc pc = b) (hb : b < 256) (hr : r cc (pc + 1) = .ok (v, pc + 1 + w)) (hK : (KK pc).1 b = (r >>= fun k => pure (f k))) : decode cc pc = .ok (f v, 1 + w) := by
  have e : (KK pc).1 b cc (pc + 1) = .ok (f v, pc + 1 + w) := by
    rw [hK, bind_ok hr]
    rfl
  rw [dec_ok h hb e, show pc + 1 + w - pc = 1 + w by omega]
/-- a kind of operands, and the instruction out of them -/
abbrev mDe := Nat × (Int → Int → Instr)
def KS (b : Nat) (q : mDe) : Prop := b < 256 ∧ match q.1 with
  | 0 => ∀ pc cc p, (KK pc).1 b cc p = .ok (q.2 0 0, p)
  | 1 => ∀ pc, (KK pc).1 b = (Reader.u1 >>= fun k => pure (q.2 (k : Int) 0))
  | 2 => ∀ pc, (KK pc).1 b = (Reader.s1 >>= fun k => pure (q.2 k 0))
  | 3 => ∀ pc, (KK pc).1 b = (Reader.u2 >>= fun k => pure (q.2 (k : Int) 0))
  | 4 => ∀ pc, (KK pc).1 b = (Reader.s2 >>= fun k => pure (q.2 k 0))
  | 5 => ∀ pc, (KK pc).1 b = (Reader.u1 >>= fun k => Reader.s1 >>= fun n => pure (q.2 (k : Int) n))
  | _ => False
def de_1 : mDe := (0, fun v w => .aconst_null)
theorem dt_1 : KS 1 de_1 := ⟨by decide, fun _ _ _ => rfl⟩
def de_2 : mDe := (0, fun v w => .iconst (-1))
theorem dt_2 : KS 2 de_2 := ⟨by decide, fun _ _ _ => rfl⟩
def de_3 : mDe := (0, fun v w => .iconst (0))
theorem dt_3 : KS 3 de_3 := ⟨by decide, fun _ _ _ => rfl⟩
def de_4 : mDe := (0, fun v w => .iconst (1))
theorem dt_4 : KS 4 de_4 := ⟨by decide, fun _ _ _ => rfl⟩
def de_5 : mDe := (0, fun v w => .iconst (2))
theorem dt_5 : KS 5 de_5 := ⟨by decide, fun _ _ _ => rfl⟩
def de_6 : mDe := (0, fun v w => .iconst (3))
theorem dt_6 : KS 6 de_6 := ⟨by decide, fun _ _ _ => rfl⟩
def de_7 : mDe := (0, fun v w => .iconst (4))
theorem dt_7 : KS 7 de_7 := ⟨by decide, fun _ _ _ => rfl⟩
def de_8 : mDe := (0, fun v w => .iconst (5))
theorem dt_8 : KS 8 de_8 := ⟨by decide, fun _ _ _ => rfl⟩
def de_9 : mDe := (0, fun v w => .lconst 0)
theorem dt_9 : KS 9 de_9 := ⟨by decide, fun _ _ _ => rfl⟩
def de_10 : mDe := (0, fun v w => .lconst 1)
theorem dt_10 : KS 10 de_10 := ⟨by decide, fun _ _ _ => rfl⟩
def de_16 : mDe := (2, fun v w => .bipush v)
theorem dt_16 : KS 16 de_16 := ⟨by decide, fun _ => rfl⟩
def de_17 : mDe := (4, fun v w => .sipush v)
theorem dt_17 : KS 17 de_17 := ⟨by decide, fun _ => rfl⟩
def de_18 : mDe := (1, fun v w => .ldc v.toNat)
theorem dt_18 : KS 18 de_18 := ⟨by decide, fun _ => rfl⟩
def de_19 : mDe := (3, fun v w => .ldc_w v.toNat)
theorem dt_19 : KS 19 de_19 := ⟨by decide, fun _ => rfl⟩
def de_20 : mDe := (3, fun v w => .ldc2_w v.toNat)
theorem dt_20 : KS 20 de_20 := ⟨by decide, fun _ => rfl⟩
def de_21 : mDe := (1, fun v w => .iload v.toNat)
theorem dt_21 : KS 21 de_21 := ⟨by decide, fun _ => rfl⟩
def de_22 : mDe := (1, fun v w => .lload v.toNat)
theorem dt_22 : KS 22 de_22 := ⟨by decide, fun _ => rfl⟩
def de_25 : mDe := (1, fun v w => .aload v.toNat)
theorem dt_25 : KS 25 de_25 := ⟨by decide, fun _ => rfl⟩
def de_26 : mDe := (0, fun v w => .iload_n 0)
theorem dt_26 : KS 26 de_26 := ⟨by decide, fun _ _ _ => rfl⟩
def de_27 : mDe := (0, fun v w => .iload_n 1)
theorem dt_27 : KS 27 de_27 := ⟨by decide, fun _ _ _ => rfl⟩
def de_28 : mDe := (0, fun v w => .iload_n 2)
theorem dt_28 : KS 28 de_28 := ⟨by decide, fun _ _ _ => rfl⟩
def de_29 : mDe := (0, fun v w => .iload_n 3)
theorem dt_29 : KS 29 de_29 := ⟨by decide, fun _ _ _ => rfl⟩
def de_30 : mDe := (0, fun v w => .lload_n 0)
theorem dt_30 : KS 30 de_30 := ⟨by decide, fun _ _ _ => rfl⟩
def de_31 : mDe := (0, fun v w => .lload_n 1)
theorem dt_31 : KS 31 de_31 := ⟨by decide, fun _ _ _ => rfl⟩
def de_32 : mDe := (0, fun v w => .lload_n 2)
theorem dt_32 : KS 32 de_32 := ⟨by decide, fun _ _ _ => rfl⟩
def de_33 : mDe := (0, fun v w => .lload_n 3)
theorem dt_33 : KS 33 de_33 := ⟨by decide, fun _ _ _ => rfl⟩
def de_42 : mDe := (0, fun v w => .aload_n 0)
theorem dt_42 : KS 42 de_42 := ⟨by decide, fun _ _ _ => rfl⟩
def de_43 : mDe := (0, fun v w => .aload_n 1)
theorem dt_43 : KS 43 de_43 := ⟨by decide, fun _ _ _ => rfl⟩
def de_44 : mDe := (0, fun v w => .aload_n 2)
theorem dt_44 : KS 44 de_44 := ⟨by decide, fun _ _ _ => rfl⟩
def de_45 : mDe := (0, fun v w => .aload_n 3)
theorem dt_45 : KS 45 de_45 := ⟨by decide, fun _ _ _ => rfl⟩
def de_46 : mDe := (0, fun v w => .iaload)
theorem dt_46 : KS 46 de_46 := ⟨by decide, fun _ _ _ => rfl⟩
def de_47 : mDe := (0, fun v w => .laload)
theorem dt_47 : KS 47 de_47 := ⟨by decide, fun _ _ _ => rfl⟩
def de_50 : mDe := (0, fun v w => .aaload)
theorem dt_50 : KS 50 de_50 := ⟨by decide, fun _ _ _ => rfl⟩
def de_51 : mDe := (0, fun v w => .baload)
theorem dt_51 : KS 51 de_51 := ⟨by decide, fun _ _ _ => rfl⟩
def de_52 : mDe := (0, fun v w => .caload)
theorem dt_52 : KS 52 de_52 := ⟨by decide, fun _ _ _ => rfl⟩
def de_53 : mDe := (0, fun v w => .saload)
theorem dt_53 : KS 53 de_53 := ⟨by decide, fun _ _ _ => rfl⟩
def de_54 : mDe := (1, fun v w => .istore v.toNat)
theorem dt_54 : KS 54 de_54 := ⟨by decide, fun _ => rfl⟩
def de_55 : mDe := (1, fun v w => .lstore v.toNat)
theorem dt_55 : KS 55 de_55 := ⟨by decide, fun _ => rfl⟩
def de_58 : mDe := (1, fun v w => .astore v.toNat)
theorem dt_58 : KS 58 de_58 := ⟨by decide, fun _ => rfl⟩
def de_59 : mDe := (0, fun v w => .istore_n 0)
theorem dt_59 : KS 59 de_59 := ⟨by decide, fun _ _ _ => rfl⟩
def de_60 : mDe := (0, fun v w => .istore_n 1)
theorem dt_60 : KS 60 de_60 := ⟨by decide, fun _ _ _ => rfl⟩
def de_61 : mDe := (0, fun v w => .istore_n 2)
theorem dt_61 : KS 61 de_61 := ⟨by decide, fun _ _ _ => rfl⟩
def de_62 : mDe := (0, fun v w => .istore_n 3)
theorem dt_62 : KS 62 de_62 := ⟨by decide, fun _ _ _ => rfl⟩
def de_63 : mDe := (0, fun v w => .lstore_n 0)
theorem dt_63 : KS 63 de_63 := ⟨by decide, fun _ _ _ => rfl⟩
def de_64 : mDe := (0, fun v w => .lstore_n 1)
theorem dt_64 : KS 64 de_64 := ⟨by decide, fun _ _ _ => rfl⟩
def de_65 : mDe := (0, fun v w => .lstore_n 2)
theorem dt_65 : KS 65 de_65 := ⟨by decide, fun _ _ _ => rfl⟩
def de_66 : mDe := (0, fun v w => .lstore_n 3)
theorem dt_66 : KS 66 de_66 := ⟨by decide, fun _ _ _ => rfl⟩
def de_75 : mDe := (0, fun v w => .astore_n 0)
theorem dt_75 : KS 75 de_75 := ⟨by decide, fun _ _ _ => rfl⟩
def de_76 : mDe := (0, fun v w => .astore_n 1)
theorem dt_76 : KS 76 de_76 := ⟨by decide, fun _ _ _ => rfl⟩
def de_77 : mDe := (0, fun v w => .astore_n 2)
theorem dt_77 : KS 77 de_77 := ⟨by decide, fun _ _ _ => rfl⟩
def de_78 : mDe := (0, fun v w => .astore_n 3)
theorem dt_78 : KS 78 de_78 := ⟨by decide, fun _ _ _ => rfl⟩
def de_79 : mDe := (0, fun v w => .iastore)
theorem dt_79 : KS 79 de_79 := ⟨by decide, fun _ _ _ => rfl⟩
def de_80 : mDe := (0, fun v w => .lastore)
theorem dt_80 : KS 80 de_80 := ⟨by decide, fun _ _ _ => rfl⟩
def de_83 : mDe := (0, fun v w => .aastore)
theorem dt_83 : KS 83 de_83 := ⟨by decide, fun _ _ _ => rfl⟩
def de_84 : mDe := (0, fun v w => .bastore)
theorem dt_84 : KS 84 de_84 := ⟨by decide, fun _ _ _ => rfl⟩
def de_87 : mDe := (0, fun v w => .pop)
theorem dt_87 : KS 87 de_87 := ⟨by decide, fun _ _ _ => rfl⟩
def de_88 : mDe := (0, fun v w => .pop2)
theorem dt_88 : KS 88 de_88 := ⟨by decide, fun _ _ _ => rfl⟩
def de_89 : mDe := (0, fun v w => .dup)
theorem dt_89 : KS 89 de_89 := ⟨by decide, fun _ _ _ => rfl⟩
def de_90 : mDe := (0, fun v w => .dup_x1)
theorem dt_90 : KS 90 de_90 := ⟨by decide, fun _ _ _ => rfl⟩
def de_92 : mDe := (0, fun v w => .dup2)
theorem dt_92 : KS 92 de_92 := ⟨by decide, fun _ _ _ => rfl⟩
def de_95 : mDe := (0, fun v w => .swap)
theorem dt_95 : KS 95 de_95 := ⟨by decide, fun _ _ _ => rfl⟩
def de_96 : mDe := (0, fun v w => .iadd)
theorem dt_96 : KS 96 de_96 := ⟨by decide, fun _ _ _ => rfl⟩
def de_97 : mDe := (0, fun v w => .ladd)
theorem dt_97 : KS 97 de_97 := ⟨by decide, fun _ _ _ => rfl⟩
def de_100 : mDe := (0, fun v w => .isub)
theorem dt_100 : KS 100 de_100 := ⟨by decide, fun _ _ _ => rfl⟩
def de_101 : mDe := (0, fun v w => .lsub)
theorem dt_101 : KS 101 de_101 := ⟨by decide, fun _ _ _ => rfl⟩
def de_104 : mDe := (0, fun v w => .imul)
theorem dt_104 : KS 104 de_104 := ⟨by decide, fun _ _ _ => rfl⟩
def de_105 : mDe := (0, fun v w => .lmul)
theorem dt_105 : KS 105 de_105 := ⟨by decide, fun _ _ _ => rfl⟩
def de_108 : mDe := (0, fun v w => .idiv)
theorem dt_108 : KS 108 de_108 := ⟨by decide, fun _ _ _ => rfl⟩
def de_109 : mDe := (0, fun v w => .ldiv)
theorem dt_109 : KS 109 de_109 := ⟨by decide, fun _ _ _ => rfl⟩
def de_112 : mDe := (0, fun v w => .irem)
theorem dt_112 : KS 112 de_112 := ⟨by decide, fun _ _ _ => rfl⟩
def de_113 : mDe := (0, fun v w => .lrem)
theorem dt_113 : KS 113 de_113 := ⟨by decide, fun _ _ _ => rfl⟩
def de_116 : mDe := (0, fun v w => .ineg)
theorem dt_116 : KS 116 de_116 := ⟨by decide, fun _ _ _ => rfl⟩
def de_117 : mDe := (0, fun v w => .lneg)
theorem dt_117 : KS 117 de_117 := ⟨by decide, fun _ _ _ => rfl⟩
def de_120 : mDe := (0, fun v w => .ishl)
theorem dt_120 : KS 120 de_120 := ⟨by decide, fun _ _ _ => rfl⟩
def de_121 : mDe := (0, fun v w => .lshl)
theorem dt_121 : KS 121 de_121 := ⟨by decide, fun _ _ _ => rfl⟩
def de_122 : mDe := (0, fun v w => .ishr)
theorem dt_122 : KS 122 de_122 := ⟨by decide, fun _ _ _ => rfl⟩
def de_123 : mDe := (0, fun v w => .lshr)
theorem dt_123 : KS 123 de_123 := ⟨by decide, fun _ _ _ => rfl⟩
def de_124 : mDe := (0, fun v w => .iushr)
theorem dt_124 : KS 124 de_124 := ⟨by decide, fun _ _ _ => rfl⟩
def de_125 : mDe := (0, fun v w => .lushr)
theorem dt_125 : KS 125 de_125 := ⟨by decide, fun _ _ _ => rfl⟩
def de_126 : mDe := (0, fun v w => .iand)
theorem dt_126 : KS 126 de_126 := ⟨by decide, fun _ _ _ => rfl⟩
def de_127 : mDe := (0, fun v w => .land)
theorem dt_127 : KS 127 de_127 := ⟨by decide, fun _ _ _ => rfl⟩
def de_128 : mDe := (0, fun v w => .ior)
theorem dt_128 : KS 128 de_128 := ⟨by decide, fun _ _ _ => rfl⟩
def de_129 : mDe := (0, fun v w => .lor)
theorem dt_129 : KS 129 de_129 := ⟨by decide, fun _ _ _ => rfl⟩
def de_130 : mDe := (0, fun v w => .ixor)
theorem dt_130 : KS 130 de_130 := ⟨by decide, fun _ _ _ => rfl⟩
def de_131 : mDe := (0, fun v w => .lxor)
theorem dt_131 : KS 131 de_131 := ⟨by decide, fun _ _ _ => rfl⟩
def de_132 : mDe := (5, fun v w => .iinc v.toNat w)
theorem dt_132 : KS 132 de_132 := ⟨by decide, fun _ => rfl⟩
def de_133 : mDe := (0, fun v w => .i2l)
theorem dt_133 : KS 133 de_133 := ⟨by decide, fun _ _ _ => rfl⟩
def de_136 : mDe := (0, fun v w => .l2i)
theorem dt_136 : KS 136 de_136 := ⟨by decide, fun _ _ _ => rfl⟩
def de_145 : mDe := (0, fun v w => .i2b)
theorem dt_145 : KS 145 de_145 := ⟨by decide, fun _ _ _ => rfl⟩
def de_146 : mDe := (0, fun v w => .i2c)
theorem dt_146 : KS 146 de_146 := ⟨by decide, fun _ _ _ => rfl⟩
def de_147 : mDe := (0, fun v w => .i2s)
theorem dt_147 : KS 147 de_147 := ⟨by decide, fun _ _ _ => rfl⟩
def de_148 : mDe := (0, fun v w => .lcmp)
theorem dt_148 : KS 148 de_148 := ⟨by decide, fun _ _ _ => rfl⟩
def de_153 : mDe := (4, fun v w => .ifCond .eq v)
theorem dt_153 : KS 153 de_153 := ⟨by decide, fun _ => rfl⟩
def de_154 : mDe := (4, fun v w => .ifCond .ne v)
theorem dt_154 : KS 154 de_154 := ⟨by decide, fun _ => rfl⟩
def de_155 : mDe := (4, fun v w => .ifCond .lt v)
theorem dt_155 : KS 155 de_155 := ⟨by decide, fun _ => rfl⟩
def de_156 : mDe := (4, fun v w => .ifCond .ge v)
theorem dt_156 : KS 156 de_156 := ⟨by decide, fun _ => rfl⟩
def de_157 : mDe := (4, fun v w => .ifCond .gt v)
theorem dt_157 : KS 157 de_157 := ⟨by decide, fun _ => rfl⟩
def de_158 : mDe := (4, fun v w => .ifCond .le v)
theorem dt_158 : KS 158 de_158 := ⟨by decide, fun _ => rfl⟩
def de_159 : mDe := (4, fun v w => .if_icmp .eq v)
theorem dt_159 : KS 159 de_159 := ⟨by decide, fun _ => rfl⟩
def de_160 : mDe := (4, fun v w => .if_icmp .ne v)
theorem dt_160 : KS 160 de_160 := ⟨by decide, fun _ => rfl⟩
def de_161 : mDe := (4, fun v w => .if_icmp .lt v)
theorem dt_161 : KS 161 de_161 := ⟨by decide, fun _ => rfl⟩
def de_162 : mDe := (4, fun v w => .if_icmp .ge v)
theorem dt_162 : KS 162 de_162 := ⟨by decide, fun _ => rfl⟩
def de_163 : mDe := (4, fun v w => .if_icmp .gt v)
theorem dt_163 : KS 163 de_163 := ⟨by decide, fun _ => rfl⟩
def de_164 : mDe := (4, fun v w => .if_icmp .le v)
theorem dt_164 : KS 164 de_164 := ⟨by decide, fun _ => rfl⟩
def de_167 : mDe := (4, fun v w => .goto v)
theorem dt_167 : KS 167 de_167 := ⟨by decide, fun _ => rfl⟩
def de_172 : mDe := (0, fun v w => .ireturn)
theorem dt_172 : KS 172 de_172 := ⟨by decide, fun _ _ _ => rfl⟩
def de_173 : mDe := (0, fun v w => .lreturn)
theorem dt_173 : KS 173 de_173 := ⟨by decide, fun _ _ _ => rfl⟩
def de_176 : mDe := (0, fun v w => .areturn)
theorem dt_176 : KS 176 de_176 := ⟨by decide, fun _ _ _ => rfl⟩
def de_177 : mDe := (0, fun v w => .return_)
theorem dt_177 : KS 177 de_177 := ⟨by decide, fun _ _ _ => rfl⟩
def de_178 : mDe := (3, fun v w => .getstatic v.toNat)
theorem dt_178 : KS 178 de_178 := ⟨by decide, fun _ => rfl⟩
def de_180 : mDe := (3, fun v w => .getfield v.toNat)
theorem dt_180 : KS 180 de_180 := ⟨by decide, fun _ => rfl⟩
def de_181 : mDe := (3, fun v w => .putfield v.toNat)
theorem dt_181 : KS 181 de_181 := ⟨by decide, fun _ => rfl⟩
def de_182 : mDe := (3, fun v w => .invokevirtual v.toNat)
theorem dt_182 : KS 182 de_182 := ⟨by decide, fun _ => rfl⟩
def de_183 : mDe := (3, fun v w => .invokespecial v.toNat)
theorem dt_183 : KS 183 de_183 := ⟨by decide, fun _ => rfl⟩
def de_184 : mDe := (3, fun v w => .invokestatic v.toNat)
theorem dt_184 : KS 184 de_184 := ⟨by decide, fun _ => rfl⟩
def de_187 : mDe := (3, fun v w => .new v.toNat)
theorem dt_187 : KS 187 de_187 := ⟨by decide, fun _ => rfl⟩
def de_189 : mDe := (3, fun v w => .anewarray v.toNat)
theorem dt_189 : KS 189 de_189 := ⟨by decide, fun _ => rfl⟩
def de_190 : mDe := (0, fun v w => .arraylength)
theorem dt_190 : KS 190 de_190 := ⟨by decide, fun _ _ _ => rfl⟩
def dT : List (Option mDe) := [none, some de_1, some de_2, some de_3, some de_4, some de_5, some de_6, some de_7, some de_8, some de_9, some de_10, none, none, none, none, none, some de_16, some de_17, some de_18, some de_19, some de_20, some de_21, some de_22, none, none, some de_25, some de_26, some de_27, some de_28, some de_29, some de_30, some de_31, some de_32, some de_33, none, none, none, none, none, none, none, none, some de_42, some de_43, some de_44, some de_45, some de_46, some de_47, none, none, some de_50, some de_51, some de_52, some de_53, some de_54, some de_55, none, none, some de_58, some de_59, some de_60, some de_61, some de_62, some de_63, some de_64, some de_65, some de_66, none, none, none, none, none, none, none, none, some de_75, some de_76, some de_77, some de_78, some de_79, some de_80, none, none, some de_83, some de_84, none, none, some de_87, some de_88, some de_89, some de_90, none, some de_92, none, none, some de_95, some de_96, some de_97, none, none, some de_100, some de_101, none, none, some de_104, some de_105, none, none, some de_108, some de_109, none, none, some de_112, some de_113, none, none, some de_116, some de_117, none, none, some de_120, some de_121, some de_122, some de_123, some de_124, some de_125, some de_126, some de_127, some de_128, some de_129, some de_130, some de_131, some de_132, some de_133, none, none, some de_136, none, none, none, none, none, none, none, none, some de_145, some de_146, some de_147, some de_148, none, none, none, none, some de_153, some de_154, some de_155, some de_156, some de_157, some de_158, some de_159, some de_160, some de_161, some de_162, some de_163, some de_164, none, none, some de_167, none, none, none, none, some de_172, some de_173, none, none, some de_176, some de_177, some de_178, none, some de_180, some de_181, some de_182, some de_183, some de_184, none, none, some de_187, none, some de_189, some de_190]
def allT : Nat → List (Option mDe) → Prop
  | _, [] => True
  | b, some q :: r => KS b q ∧ allT (b + 1) r
  | b, none :: r => allT (b + 1) r
theorem allT_get : ∀ {l : List (Option mDe)} {b k : Nat} {q : mDe}, allT b l → nth l k = some (some q) → KS (b + k) q
  | [], _, k, _, _, h => by cases k <;> cases h
  | some a :: r, b, 0, q, ha, h => by
    cases h
    exact ha.1
  | none :: r, b, 0, q, ha, h => by cases h
  | some a :: r, b, k + 1, q, ha, h => by
    have := allT_get (l := r) (b := b + 1) (k := k) ha.2 h
    rwa [show b + 1 + k = b + (k + 1) by omega] at this
  | none :: r, b, k + 1, q, ha, h => by
    have := allT_get (l := r) (b := b + 1) (k := k) ha h
    rwa [show b + 1 + k = b + (k + 1) by omega] at this
theorem dT_all : allT 0 dT := ⟨dt_1, dt_2, dt_3, dt_4, dt_5, dt_6, dt_7, dt_8, dt_9, dt_10, dt_16, dt_17, dt_18, dt_19, dt_20, dt_21, dt_22, dt_25, dt_26, dt_27, dt_28, dt_29, dt_30, dt_31, dt_32, dt_33, dt_42, dt_43, dt_44, dt_45, dt_46, dt_47, dt_50, dt_51, dt_52, dt_53, dt_54, dt_55, dt_58, dt_59, dt_60, dt_61, dt_62, dt_63, dt_64, dt_65, dt_66, dt_75, dt_76, dt_77, dt_78, dt_79, dt_80, dt_83, dt_84, dt_87, dt_88, dt_89, dt_90, dt_92, dt_95, dt_96, dt_97, dt_100, dt_101, dt_104, dt_105, dt_108, dt_109, dt_112, dt_113, dt_116, dt_117, dt_120, dt_121, dt_122, dt_123, dt_124, dt_125, dt_126, dt_127, dt_128, dt_129, dt_130, dt_131, dt_132, dt_133, dt_136, dt_145, dt_146, dt_147, dt_148, dt_153, dt_154, dt_155, dt_156, dt_157, dt_158, dt_159, dt_160, dt_161, dt_162, dt_163, dt_164, dt_167, dt_172, dt_173, dt_176, dt_177, dt_178, dt_180, dt_181, dt_182, dt_183, dt_184, dt_187, dt_189, dt_190, trivial⟩
/-- what lies there, by the table -/
def fdec (cc : ByteArray) (pc : Nat) : Option (Instr × Nat) := match nth dT (bAt cc pc) with
  | some (some q) => match q.1 with
    | 0 => some (q.2 0 0, 1)
    | 1 => if Nat.blt (bAt cc (pc + 1)) 256 then some (q.2 (bAt cc (pc + 1) : Nat) 0, 2) else none
    | 2 => if Nat.blt (bAt cc (pc + 1)) 256 then some (q.2 (Reader.signed 8 (bAt cc (pc + 1))) 0, 2) else none
    | 3 => if Nat.blt (bAt cc (pc + 1)) 256 && Nat.blt (bAt cc (pc + 2)) 256 then some (q.2 (bAt cc (pc + 1) * 256 + bAt cc (pc + 2) : Nat) 0, 3) else none
    | 4 => if Nat.blt (bAt cc (pc + 1)) 256 && Nat.blt (bAt cc (pc + 2)) 256 then some (q.2 (Reader.signed 16 (bAt cc (pc + 1) * 256 + bAt cc (pc + 2))) 0, 3) else none
    | 5 => if Nat.blt (bAt cc (pc + 1)) 256 && Nat.blt (bAt cc (pc + 2)) 256 then some (q.2 (bAt cc (pc + 1) : Nat) (Reader.signed 8 (bAt cc (pc + 2))), 3) else none
    | _ => none
  | _ => none
theorem blt_lt {a b : Nat} (h : Nat.blt a b = true) : a < b := Nat.le_of_ble_eq_true h
theorem fdec_ok {cc : ByteArray} {pc len : Nat} {i : Instr} (h : fdec cc pc = some (i, len)) : decode cc pc = .ok (i, len) := by
  unfold fdec at h
  split at h
  · next q e =>
    have hk := allT_get dT_all e
    rw [Nat.zero_add] at hk
    obtain ⟨k, F⟩ := q
    obtain ⟨hb, hk⟩ := hk
    split at h
    · next e0 =>
      cases (show k = 0 from e0)
      cases h
      have := dec_ok rfl hb (hk pc cc (pc + 1))
      rwa [show pc + 1 - pc = 1 by omega] at this
    · next e0 =>
      cases (show k = 1 from e0)
      split at h
      · next g =>
        cases h
        exact dec_r rfl hb (u1_at rfl (blt_lt g)) (hk pc)
      · cases h
    · next e0 =>
      cases (show k = 2 from e0)
      split at h
      · next g =>
        cases h
        exact dec_r rfl hb (s1_at rfl (blt_lt g)) (hk pc)
      · cases h
    · next e0 =>
      cases (show k = 3 from e0)
      split at h
      · next g =>
        rw [Bool.and_eq_true] at g
        cases h
        exact dec_r (f := fun k : Nat => F (k : Int) 0) rfl hb (u2_at rfl (blt_lt g.1) rfl (blt_lt g.2)) (hk pc)
      · cases h
    · next e0 =>
      cases (show k = 4 from e0)
      split at h
      · next g =>
        rw [Bool.and_eq_true] at g
        cases h
        exact dec_r rfl hb (s2_at rfl (blt_lt g.1) rfl (blt_lt g.2)) (hk pc)
      · cases h
    · next e0 =>
      cases (show k = 5 from e0)
      split at h
      · next g =>
        rw [Bool.and_eq_true] at g
        cases h
        have e5 : (KK pc).1 (bAt cc pc) cc (pc + 1) = .ok (F (bAt cc (pc + 1) : Nat) (Reader.signed 8 (bAt cc (pc + 2))), pc + 3) := by
          rw [hk pc, bind_ok (u1_at rfl (blt_lt g.1)), bind_ok (s1_at (p := pc + 1 + 1) rfl (blt_lt g.2))]
          rfl
        have := dec_ok rfl hb e5
        rwa [show pc + 3 - pc = 3 by omega] at this
      · cases h
    · cases h
  · cases h
/-- is it this instruction that lies there? -/
def isI (cc : ByteArray) (pc : Nat) (raw : Instr) (len : Nat) : Bool := match fdec cc pc with
  | some q => Nat.beq q.2 len && decide (q.1 = raw)
  | none => decide (decode cc pc = .ok (raw, len))
theorem isI_ok {cc : ByteArray} {pc len : Nat} {raw : Instr} (h : isI cc pc raw len = true) : decode cc pc = .ok (raw, len) := by
  unfold isI at h
  split at h
  · next q e =>
    rw [Bool.and_eq_true] at h
    obtain ⟨i, n⟩ := q
    rw [← of_decide_eq_true h.2, ← Nat.eq_of_beq_eq_true h.1]
    exact fdec_ok e
  · exact of_decide_eq_true h
