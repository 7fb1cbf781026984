/-! small numbers for the loops -/
theorem lt_of_c {i N : Nat} (hN : N < 2147483648) (hi : i ≤ N) (c : ¬ nI N ≤ nI i) : i < N := by
  rcases Nat.lt_or_ge i N with q | q
  · exact q
  · exact absurd (nI_le q (by omega)) c
theorem eq_of_c {i N : Nat} (hN : N < 2147483648) (hi : i ≤ N) (c : nI N ≤ nI i) : i = N := by
  have := (nI_leI hN (by omega)).mp c
  omega
theorem lt_of_d {i N : Nat} (hN : N < 2147483648) (hi : i ≤ N) (c : nI i < nI N) : i < N := (nI_ltI (by omega) hN).mp c
theorem ge_of_d {i N : Nat} (hN : N < 2147483648) (hi : i ≤ N) (c : ¬ nI i < nI N) : i = N := by
  rcases Nat.lt_or_ge i N with q | q
  · exact absurd (nI_lt q hN) c
  · omega
theorem cpy_l {f g h : Nat → Int64} {n : Int32} (e : g = va_cpy f h (0 : Int32).toNatClampNeg (0 : Int32).toNatClampNeg n.toNatClampNeg) : ∀ j, j < n.toNatClampNeg → g j = f j := by
  intro j hj
  have h0 : (0 : Int32).toNatClampNeg = 0 := by decide
  rw [e, h0]
  simp [va_cpy, hj]
theorem updL_ne {f g : Nat → Int64} {j q : Nat} {v : Int64} (e : g = vp_updL f q v) (h : j ≠ q) : g j = f j := by rw [e]; simp [vp_updL, h]
/-- a number between 1 and a bound, or not -/
theorem span (B : Nat) (hB : B < 2147483648) (x : Int32) : (x < 1 ∨ nI B < x) ∨ ∃ N : Nat, 1 ≤ N ∧ N ≤ B ∧ x = nI N := by
  by_cases h : x < 1 ∨ nI B < x
  · exact Or.inl h
  · refine Or.inr ?_
    have h1 : ¬ x < 1 := fun q => h (Or.inl q)
    have h2 : ¬ nI B < x := fun q => h (Or.inr q)
    have h0 : ¬ x < 0 := fun q => h1 (by
      have := Int32.lt_iff_toInt_lt.mp q
      refine Int32.lt_iff_toInt_lt.mpr ?_
      have e1 : (1 : Int32).toInt = 1 := by decide
      have e0 : (0 : Int32).toInt = 0 := by decide
      omega)
    obtain ⟨j, hj, rfl⟩ := nI_of h0
    refine ⟨j, ?_, ?_, rfl⟩
    · rcases Nat.lt_or_ge j 1 with q | q
      · exact absurd (nI_lt q (by decide)) h1
      · exact q
    · rcases Nat.lt_or_ge B j with q | q
      · exact absurd (nI_lt q hj) h2
      · exact q
