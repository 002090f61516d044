/-! EQUIV 4: what class and reference have in common between calls -/
/-- a word's letters (1 to 26) as one number, to a base -/
def pk (B o : Int) : List Nat → Int → Int
  | [], a => a
  | l :: r, a => pk B o r (a * B + ((l : Int) + o))
def wOk (w : List Nat) : Prop := w.length ≤ 8 ∧ ∀ l ∈ w, 1 ≤ l ∧ l ≤ 26
def NmR (nT nM : Int → Int) (n : Int) : Prop := ∀ p, 0 ≤ p → p < n → ∃ w, wOk w ∧ nT p = pk 32 0 w 0 ∧ nM p = pk 256 96 w 0
/-- one row of TIMES -/
def StR (n r tw tp tt ts tn tq m0 m1 m2 m4 m5 : Int) : Prop :=
  (tw = 14 ∧ m0 = 13 ∧ tp = m1 ∧ 0 ≤ tp ∧ tp < n) ∨
  (tw = 15 ∧ m0 = 14 ∧ tn = m1 ∧ 1 ≤ tn ∧ tn ≤ 20) ∨
  (tw = 16 ∧ m0 = 15) ∨
  (tw = 17 ∧ m0 = 16 ∧ tp = m1 ∧ 0 ≤ tp ∧ tp < n ∧ tn = m2 ∧ 0 ≤ tn ∧ tn ≤ 9) ∨
  (tw = 18 ∧ m0 = 17) ∨
  (tw = 19 ∧ tp = m1 ∧ 0 ≤ tp ∧ tp < n ∧ (tt = 20 ∧ m0 = 1822 ∨ (tt = 10 ∧ m0 = 1810 ∨ tt = 11 ∧ m0 = 1811) ∧ ts = m5 ∧ (ts = 60 ∨ ts = 61 ∨ ts = 62) ∧ tn = m2 ∧ 0 ≤ tn ∧ tn ≤ 99) ∧ tq = m4 ∧ r < tq) ∨
  (tw = 21 ∧ m0 = 19 ∧ tn = m1 ∧ 1 ≤ tn ∧ tn ≤ 99 ∧ tq = m4 ∧ r < tq) ∨
  (tw = 22 ∧ m0 = 20 ∧ tq = m4 ∧ 0 ≤ tq ∧ tq < r) ∨
  (tw = 23 ∧ m0 = 21)
abbrev opn (x : Int) : Prop := x = 19 ∨ x = 21
/-- whens, loops and their ends lie in each other -/
def Nst (rows : Int) (tw tq : Int → Int) : Prop := ∀ r, 0 ≤ r → r < rows →
  (opn (tw r) → r < tq r ∧ tq r < rows ∧ tw (tq r) = 22 ∧ tq (tq r) = r) ∧
  (tw r = 22 → 0 ≤ tq r ∧ tq r < r ∧ opn (tw (tq r)) ∧ tq (tq r) = r) ∧
  ∀ o, 0 ≤ o → o < r → opn (tw o) → r < tq o → (opn (tw r) ∨ tw r = 22) → o < tq r ∧ tq r < tq o
/-- TIMES of the class at b, of the reference in a slot -/
def TiR (b : Nat) (n : Int) (h : mM) (s : Int → Int) : Prop :=
  (h b 8 = 0 ∨ h b 8 = 1) ∧ s 8 = (if h b 8 = 1 then h b 6 else -1) ∧ (0 ≤ h b 6 ∧ h b 6 ≤ 60) ∧ (0 ≤ h b 7 ∧ h b 7 ≤ 30) ∧
  (h b 8 = 1 → (∀ r, 0 ≤ r → r < h b 6 → StR n r (h (b + 1) r) (h (b + 2) r) (h (b + 3) r) (h (b + 4) r) (h (b + 5) r) (h (b + 6) r) (s (46 + 6 * r)) (s (46 + 6 * r + 1)) (s (46 + 6 * r + 2)) (s (46 + 6 * r + 4)) (s (46 + 6 * r + 5))) ∧ Nst (h b 6) (h (b + 1)) (h (b + 6)))
def SlotR (bc bt : Nat) (c : Kc) (h : mM) (s sn : Int) : Prop := CoT bc c h ∧ CoM c (fun _ k => h 131 (s + k)) ∧ WfC c ∧ c 1 0 ≤ 9999 ∧ NmR (h (bc + 7)) (fun p => h 132 (sn + p)) (c 0 0) ∧ TiR bt (c 0 0) h (fun k => h 131 (s + k))
def TrR (h : mM) : Prop := ∀ t : Nat, t < 4 → h 7 t = h 133 t ∧ h 8 t = h 134 t ∧ (0 ≤ h 7 t ∧ h 7 t ≤ 3) ∧ (-1 ≤ h 8 t ∧ h 8 t ≤ 60) ∧ ∀ i, 0 ≤ i → i < h 8 t → h (3 + t) i = h 135 (60 * (t : Int) + i) ∧ inL (h (3 + t) i)
def WL : List Int := [0, 495763, 630829, 242167, 114156, 267316, 19039336, 542723566, 52, 13796820, 755277, 7920536755, 21464692, 655, 4793803, 14982420, 6112617927, 206220, 1497, 762030, 12596, 409072, 5572, 643568]
def Rel (h : mM) : Prop :=
  h 0 0 = h 130 2 ∧ (h 0 1 = h 130 3 ∧ h 0 2 = h 130 4) ∧ TrR h ∧
  (h 9 2 = h 130 10 ∧ (0 ≤ h 9 2 ∧ h 9 2 ≤ 900) ∧ ∀ i, 0 ≤ i → i < h 9 2 → h 10 i = h 136 i ∧ inB (h 10 i)) ∧
  (h 9 11 = h 130 16 ∧ h 9 12 = h 130 17) ∧ (∃ c, SlotR 12 30 c h 0 0) ∧
  (h 56 2 = h 130 45 ∧ (0 ≤ h 56 2 ∧ h 56 2 ≤ 3) ∧ ∀ j : Nat, (j : Int) < h 56 2 → ∃ c, SlotR (59 + 16 * j) (68 + 16 * j) c h (414 * ((j : Int) + 1)) (7 * ((j : Int) + 1))) ∧
  (h 0 3 = h 130 44 ∧ (h 0 3 = 0 ∨ h 0 3 = 1) ∧ (h 107 7 = 0 ∨ h 107 7 = 1) ∧ (h 0 3 = 1 → h 107 3 = h 152 0 ∧ h 107 4 = h 152 1 ∧ h 107 5 = h 152 2 ∧ h 107 6 = h 152 3 ∧ h 107 7 = h 152 4)) ∧
  (∀ i, 1 ≤ i → i ≤ 23 → h 11 i = (nth WL i.toNat).getD 0) ∧ ∀ j, inI (h 150 j)
/-- rows that stay but where a call says otherwise -/
def keptL : List Nat := [3, 4, 5, 6, 7, 8, 9, 10, 11, 19, 30, 31, 32, 33, 34, 35, 36, 56, 59, 60, 61, 62, 63, 64, 65, 66, 68, 69, 70, 71, 72, 73, 74, 75, 76, 77, 78, 79, 80, 81, 82, 84, 85, 86, 87, 88, 89, 90, 91, 92, 93, 94, 95, 96, 97, 98, 100, 101, 102, 103, 104, 105, 106, 107, 132, 133, 134, 135, 136, 150, 152]
def Keep (h h' : mM) : Prop := (∀ a, keptL.elem a = true → h' a = h a) ∧ (∀ k, k ≠ 0 → h' 0 k = h 0 k) ∧ (∀ k, (k = 3 ∨ k = 4 ∨ k = 10 ∨ k = 16 ∨ k = 17 ∨ k = 44 ∨ k = 45) → h' 130 k = h 130 k) ∧ ∀ k, (k = 8 ∨ 46 ≤ k ∧ k < 1656) → h' 131 k = h 131 k
theorem Keep.rf {h : mM} : Keep h h := ⟨fun _ _ => rfl, fun _ _ => rfl, fun _ _ => rfl, fun _ _ => rfl⟩
theorem Keep.tr {h k g : mM} (p : Keep h k) (q : Keep k g) : Keep h g := ⟨fun a z => (q.1 a z).trans (p.1 a z), fun a z => (q.2.1 a z).trans (p.2.1 a z), fun a z => (q.2.2.1 a z).trans (p.2.2.1 a z), fun a z => (q.2.2.2 a z).trans (p.2.2.2 a z)⟩
theorem Keep.up0 {h k : mM} (p : Keep h k) (v : Int) : Keep h (upM k 0 0 v) := p.tr ⟨fun a z => up_row (fun e => by subst e; exact absurd z (by decide)), fun j hj => by rw [up_at, if_neg hj], fun j _ => up_ne (by omega), fun j _ => up_ne (by omega)⟩
theorem Keep.upM2 {h k : mM} (p : Keep h k) (i v : Int) (hi : ¬ (i = 3 ∨ i = 4 ∨ i = 10 ∨ i = 16 ∨ i = 17 ∨ i = 44 ∨ i = 45)) : Keep h (upM k 130 i v) := p.tr ⟨fun a z => up_row (fun e => by subst e; exact absurd z (by decide)), fun j hj => up_ne (by omega), fun j hj => by rw [up_at, if_neg (fun e => hi (by rw [← e]; exact hj))], fun j _ => up_ne (by omega)⟩
theorem Keep.ow {h k : mM} {L : List Nat} (o : Ow L h k) (hl : ∀ a ∈ L, keptL.elem a = false ∧ a ≠ 0 ∧ a ≠ 130 ∧ a ≠ 131) : Keep h k := by
  have e : ∀ a, (keptL.elem a = true ∨ a = 0 ∨ a = 130 ∨ a = 131) → k a = h a := fun a z => o a (fun y => by
    obtain ⟨h1, h2, h3, h4⟩ := hl a y
    rcases z with z | z | z | z
    · rw [h1] at z; cases z
    · exact h2 z
    · exact h3 z
    · exact h4 z)
  exact ⟨fun a z => e a (Or.inl z), fun j _ => by rw [e 0 (by omega)], fun j _ => by rw [e 130 (by omega)], fun j _ => by rw [e 131 (by omega)]⟩
theorem Keep.oc {h k : mM} (o : Oc h k) : Keep h k := by
  refine ⟨fun a z => o.1 a (fun e => by subst e; exact absurd z (by decide)) (fun e => by subst e; exact absurd z (by decide)), fun j _ => by rw [o.1 0 (by omega) (by omega)], fun j _ => by rw [o.1 130 (by omega) (by omega)], fun j hj => o.2 j (by omega)⟩
theorem NmR.mv {a b a' b' : Int → Int} {n : Int} (k : NmR a b n) (e1 : ∀ p, 0 ≤ p → p < n → a' p = a p) (e2 : ∀ p, 0 ≤ p → p < n → b' p = b p) : NmR a' b' n := fun p h1 h2 => by
  obtain ⟨w, q1, q2, q3⟩ := k p h1 h2
  exact ⟨w, q1, (e1 p h1 h2).trans q2, (e2 p h1 h2).trans q3⟩
theorem TiR.mv {b : Nat} {n : Int} {h h' : mM} {s s' : Int → Int} (k : TiR b n h s) (e : ∀ a, b ≤ a → a ≤ b + 6 → h' a = h a) (es : ∀ j, (j = 8 ∨ 46 ≤ j ∧ j < 406) → s' j = s j) : TiR b n h' s' := by
  obtain ⟨k1, k2, k3, k4, k5⟩ := k
  unfold TiR
  rw [e b (by omega) (by omega), e (b + 1) (by omega) (by omega), e (b + 2) (by omega) (by omega), e (b + 3) (by omega) (by omega), e (b + 4) (by omega) (by omega), e (b + 5) (by omega) (by omega), e (b + 6) (by omega) (by omega)]
  refine ⟨k1, (es 8 (by omega)).trans k2, k3, k4, fun q => ⟨fun r h1 h2 => ?_, (k5 q).2⟩⟩
  have := (k5 q).1 r h1 h2
  rw [es _ (by omega), es _ (by omega), es _ (by omega), es _ (by omega), es _ (by omega)]
  exact this
theorem TiR.n {b : Nat} {n n' : Int} {h : mM} {s : Int → Int} (k : TiR b n h s) (hn : n ≤ n') : TiR b n' h s := by
  obtain ⟨k1, k2, k3, k4, k5⟩ := k
  refine ⟨k1, k2, k3, k4, fun q => ⟨fun r h1 h2 => ?_, (k5 q).2⟩⟩
  have := (k5 q).1 r h1 h2
  exact this.imp (fun z => ⟨z.1, z.2.1, z.2.2.1, z.2.2.2.1, by have := z.2.2.2.2; omega⟩) (Or.imp (fun z => z) (Or.imp (fun z => z) (Or.imp (fun ⟨a, b, c, e, f, g⟩ => ⟨a, b, c, e, by omega, g⟩) (Or.imp (fun z => z) (Or.imp (fun ⟨a, b, c, e, f⟩ => ⟨a, b, c, by omega, f⟩) (fun z => z))))))
theorem SlotR.mv {bc bt : Nat} {c : Kc} {h h' : mM} {s sn : Int} (k : SlotR bc bt c h s sn) (e1 : ∀ a, bc ≤ a → a ≤ bc + 7 → h' a = h a) (e2 : ∀ a, bt ≤ a → a ≤ bt + 6 → h' a = h a) (e3 : ∀ j, s ≤ j → j < s + 414 → h' 131 j = h 131 j) (e4 : h' 132 = h 132) : SlotR bc bt c h' s sn := by
  obtain ⟨k1, k2, k3, k4, k5, k6⟩ := k
  have hn := k3.1
  refine ⟨k1.mv (fun a h1 h2 => e1 a h1 (by omega)), ?_, k3, k4, k5.mv (fun p _ _ => by rw [e1 (bc + 7) (by omega) (by omega)]) (fun p _ _ => by rw [e4]), k6.mv e2 (fun j hj => e3 _ (by omega) (by omega))⟩
  obtain ⟨m1, m2, m3, m4, m5, m6, m7, m8⟩ := k2
  exact ⟨(e3 _ (by omega) (by omega)).trans m1, (e3 _ (by omega) (by omega)).trans m2, fun i a b => (e3 _ (by omega) (by omega)).trans (m3 i a b), fun i a b => (e3 _ (by omega) (by omega)).trans (m4 i a b), fun i a b => (e3 _ (by omega) (by omega)).trans (m5 i a b), fun i a b => (e3 _ (by omega) (by omega)).trans (m6 i a b), fun i a b => (e3 _ (by omega) (by omega)).trans (m7 i a b), fun i a b => (e3 _ (by omega) (by omega)).trans (m8 i a b)⟩
theorem CoM.z {c : Kc} {h : mM} : CoM c (fun _ k => h 131 (0 + k)) ↔ CoM c h := by
  have e : (fun (_ : Nat) (k : Int) => h 131 (0 + k)) = fun _ k => h 131 k := by
    funext _ k
    rw [Int.zero_add]
  rw [e]
  exact Iff.rfl
/-- a call that changes the people alone -/
theorem Rel.upd {h h' : mM} (R : Rel h) {c c' : Kc} (k0 : SlotR 12 30 c h 0 0) (kT : CoT 12 c' h') (kM : CoM c' h') (w' : WfC c') (g' : c' 1 0 ≤ 9999) (n' : c' 0 0 = c 0 0) (S : Keep h h') (hs : h' 0 0 = h' 130 2) : Rel h' := by
  obtain ⟨R1, R2, R3, R4, R5, -, R7, R8, R9⟩ := R
  obtain ⟨S1, S2, S3, S4⟩ := S
  have e : ∀ a, keptL.elem a = true → h' a = h a := S1
  refine ⟨hs, ?_, ?_, ?_, ?_, ⟨c', kT, CoM.z.mpr kM, w', g', ?_, ?_⟩, ?_, ?_, ?_⟩
  · rw [S2 1 (by omega), S2 2 (by omega), S3 3 (by omega), S3 4 (by omega)]; exact R2
  · intro t ht
    rw [e 7 (by decide), e 8 (by decide), e 133 (by decide), e 134 (by decide), e 135 (by decide)]
    have : keptL.elem (3 + t) = true := by
      have : t = 0 ∨ t = 1 ∨ t = 2 ∨ t = 3 := by omega
      rcases this with rfl | rfl | rfl | rfl <;> decide
    rw [e _ this]
    exact R3 t ht
  · rw [e 9 (by decide), e 10 (by decide), e 136 (by decide), S3 10 (by omega)]; exact R4
  · rw [e 9 (by decide), S3 16 (by omega), S3 17 (by omega)]; exact R5
  · rw [n']
    exact k0.2.2.2.2.1.mv (fun p _ _ => by rw [show h' (12 + 7) = h (12 + 7) from e 19 (by decide)]) (fun p _ _ => by rw [e 132 (by decide)])
  · rw [n']
    refine k0.2.2.2.2.2.mv (fun a h1 h2 => e a ?_) (fun j hj => S4 _ (by omega))
    have : a = 30 ∨ a = 31 ∨ a = 32 ∨ a = 33 ∨ a = 34 ∨ a = 35 ∨ a = 36 := by omega
    rcases this with rfl | rfl | rfl | rfl | rfl | rfl | rfl <;> decide
  · rw [e 56 (by decide), S3 45 (by omega)]
    refine ⟨R7.1, R7.2.1, fun j hj => ?_⟩
    obtain ⟨cj, kj⟩ := R7.2.2 j hj
    refine ⟨cj, kj.mv (fun a h1 h2 => e a ?_) (fun a h1 h2 => e a ?_) (fun i h1 h2 => S4 i (by omega)) (e 132 (by decide))⟩
    · have hj3 : j = 0 ∨ j = 1 ∨ j = 2 := by have := R7.2.1; omega
      have : a = 59 + 16 * j ∨ a = 60 + 16 * j ∨ a = 61 + 16 * j ∨ a = 62 + 16 * j ∨ a = 63 + 16 * j ∨ a = 64 + 16 * j ∨ a = 65 + 16 * j ∨ a = 66 + 16 * j := by omega
      rcases hj3 with rfl | rfl | rfl <;> rcases this with rfl | rfl | rfl | rfl | rfl | rfl | rfl | rfl <;> decide
    · have hj3 : j = 0 ∨ j = 1 ∨ j = 2 := by have := R7.2.1; omega
      have : a = 68 + 16 * j ∨ a = 69 + 16 * j ∨ a = 70 + 16 * j ∨ a = 71 + 16 * j ∨ a = 72 + 16 * j ∨ a = 73 + 16 * j ∨ a = 74 + 16 * j := by omega
      rcases hj3 with rfl | rfl | rfl <;> rcases this with rfl | rfl | rfl | rfl | rfl | rfl | rfl <;> decide
  · rw [S2 3 (by omega), S3 44 (by omega), e 107 (by decide), e 152 (by decide)]; exact R8
  · rw [e 11 (by decide), e 150 (by decide)]; exact R9
/-- both calls, one behind the other, answer alike -/
def QI (xs : List Int) (d : Nat) (h : mM) (iT iM : Nat) (a : List mv) : Prop := ∃ v h1 h2, C xs d iT 0 (mR 0 :: a) h = some ([mI v], h1) ∧ C xs d iM 0 (mR 130 :: a) h1 = some ([mI v], h2) ∧ Rel h2
def QL (xs : List Int) (d : Nat) (h : mM) (iT iM : Nat) (a : List mv) : Prop := ∃ v h1 h2, C xs d iT 0 (mR 0 :: a) h = some ([mL v], h1) ∧ C xs d iM 0 (mR 130 :: a) h1 = some ([mL v], h2) ∧ Rel h2
theorem Rel.st {h : mM} (R : Rel h) (s : Int) : Rel (upM (upM h 0 0 s) 130 2 s) := by
  obtain ⟨c, k⟩ := R.2.2.2.2.2.1
  exact R.upd k (k.1.mv (fun a h1 h2 => by rw [up_row (by omega), up_row (by omega)])) ((CoM.z.mp k.2.1).mv (by rw [up_row (by omega), up_row (by omega)])) k.2.2.1 k.2.2.2.1 rfl ((Keep.rf.up0 s).upM2 2 s (by omega)) (by rw [up_ne (by omega), up_eq, up_eq])
