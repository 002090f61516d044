/-! EVERY METHOD IS CHECKED -/
theorem progs_len : progs.length = 358 := by decide +kernel
theorem chk_all : Chk := by
  intro id k i h
  by_cases h0 : id < 357
  · have q := okm_all h0
    unfold okM at q
    rw [Bool.and_eq_true] at q
    have q2 := okC_spec q.2 k i h
    rwa [Nat.zero_add] at q2
  · by_cases h1 : id = 357
    · subst h1
      rw [p_L_law] at h ⊢
      have hl := law_len
      rw [Nat.ble_eq] at hl
      have hk : k < 1231 := Nat.lt_of_lt_of_le (nth_lt h) hl
      have q := okl_all hk
      unfold lawI at q
      rw [nth2_eq, h] at q
      exact q
    · exfalso
      unfold PP at h
      cases e : nth progs id with
      | none => rw [e] at h; cases k <;> cases h
      | some z =>
        have := nth_lt e
        rw [progs_len] at this
        omega
