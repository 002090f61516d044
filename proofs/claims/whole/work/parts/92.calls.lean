/-! CALLS: what is given, where a method begins -/
theorem sm_AOA.moved {ty : FieldType} {u U : State} (hvm : u.vm.Alike U.vm) (h : sm_AOA ty u) : sm_AOA ty U := by
  unfold sm_AOA Cond.before Cond.holds at h ⊢
  simp only [Cond.value, beq_iff_eq] at h ⊢
  cases hc : u.vm.findClass (FieldType.array ty).toString with
  | none => simp [hc] at h
  | some comp =>
    simp only [hc, Option.bind_some, Option.bind_eq_some_iff, Option.map_eq_some_iff] at h
    obtain ⟨c, hi, k, hk, hb⟩ := h
    obtain ⟨k', hk', he⟩ := hvm.2.2 _ _ hk
    have hb9 : U.vm.bare = u.vm.bare := by first | exact hvm.bare_eq | exact hvm.bare_eq.symm
    have hi : (U.vm.classes.findIdx? fun (x : Class) => match x.kind with | .array component _ => component == comp | _ => false) = some c := (va_idx_bare U.vm comp).symm.trans ((congrArg (fun b : Vm => b.classes.findIdx? fun (x : Class) => match x.kind with | .array component _ => component == comp | _ => false) hb9).trans ((va_idx_bare u.vm comp).trans hi))
    rw [hvm.findClass, hc, Option.bind_some]
    refine (congrArg (fun o : Option Nat => (o.bind (fun c => (U.vm.classes[c]?).map fun (k : Class) => match k.kind with | .array _ ty9 => decide (ty9 = FieldType.array ty) && decide (U.vm.findClass ("[" ++ (FieldType.array ty).toString) = some c) | _ => false))) hi).trans ?_
    rw [Option.bind_some, hk', Option.map_some, he, hvm.findClass]
    exact congrArg some hb
theorem Amb.same {ct : Nat → List Int} {aC : Nat → Nat} {A : Nat → Prop} {u U : State} {H : Heap} (hv : u.vm = U.vm) (h : Amb ct aC A u H) : Amb ct aC A U H := by
  have hal : u.vm.Alike U.vm := by rw [hv]; exact Vm.Alike.refl U.vm
  obtain ⟨h1, h2, h3, h4, h5, h6, h7, h8, ⟨adK, adV, h9, e5, e6⟩, h10, h11⟩ := h
  exact ⟨fun k a b => va_T.moved hal (h1 k a b), fun k a b => va_Z.moved hal (h2 k a b), fun q hq => va_Nw.same rfl hv (h3 q hq), fun q hq => va_Nw.same rfl hv (h4 q hq), fun q hq => (h5 q hq).imp fun tx z => vk_R.same hv.symm z, va_AO.moved hal h6, va_AO.moved hal h7, sm_AOA.moved hal h8, ⟨adK, adV, vk_S.moved hal h9, e5, e6⟩, va_Z.moved hal h10, va_Zq.moved hal h11⟩
theorem Amb.warm {ct : Nat → List Int} {aC : Nat → Nat} {A : Nat → Prop} {s U : State} {H : Heap} (hW : s.WarmedH U.vm) (h : Amb ct aC A s H) : Amb ct aC A U H := by
  have hal : s.vm.Alike U.vm := hW.alike
  obtain ⟨h1, h2, h3, h4, h5, h6, h7, h8, ⟨adK, adV, h9, e5, e6⟩, h10, h11⟩ := h
  exact ⟨fun k a b => va_T.moved hal (h1 k a b), fun k a b => va_Z.moved hal (h2 k a b), fun q hq => va_Nw.warmF hW (h3 q hq), fun q hq => va_Nw.warmM hW (h4 q hq), fun q hq => (h5 q hq).imp fun tx z => vk_R.warm hW z, va_AO.moved hal h6, va_AO.moved hal h7, sm_AOA.moved hal h8, ⟨adK, adV, vk_S.moved hal h9, e5, e6⟩, va_Z.moved hal h10, va_Zq.moved hal h11⟩
theorem Amb.kept {ct : Nat → List Int} {aC : Nat → Nat} {A : Nat → Prop} {s : State} {H H1 : Heap} (h : Amb ct aC A s H) (hq : ∀ a : Nat, a < H.size → ¬ A a → H1[a]? = H[a]?) : Amb ct aC A s H1 := by
  obtain ⟨h1, h2, h3, h4, h5, h6, h7, h8, ⟨adK, adV, h9, e5, e6⟩, h10, h11⟩ := h
  exact ⟨fun k a b => (h1 k a b).kept hq, fun k a b => (h2 k a b).kept hq, h3, h4, h5, h6, h7, h8, ⟨adK, adV, h9.kept hq, e5, e6⟩, h10.kept hq, h11.kept hq⟩
theorem Amb.narrow {ct : Nat → List Int} {aC : Nat → Nat} {A B : Nat → Prop} {s : State} {H : Heap} (h : Amb ct aC A s H) (hAB : ∀ q, B q → A q) : Amb ct aC B s H := by
  obtain ⟨h1, h2, h3, h4, h5, h6, h7, h8, ⟨adK, adV, h9, e5, e6⟩, h10, h11⟩ := h
  exact ⟨fun k a b => (h1 k a b).narrow hAB, fun k a b => (h2 k a b).narrow hAB, h3, h4, h5, h6, h7, h8, ⟨adK, adV, h9.narrow hAB, e5, e6⟩, h10.narrow hAB, h11.narrow hAB⟩
