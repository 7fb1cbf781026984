/-! small tests of ints -/
theorem i_e1 : (1 : Int32).toInt = 1 := by decide
theorem i_e2 : (2 : Int32).toInt = 2 := by decide
theorem i_e0 : (0 : Int32).toInt = 0 := by decide
theorem i_em1 : (-1 : Int32).toInt = -1 := by decide
theorem n2_of {x : Int32} (h : 1 < x) : ¬ x < 2 := fun q => by
  have a := Int32.lt_iff_toInt_lt.mp h
  have b := Int32.lt_iff_toInt_lt.mp q
  rw [i_e1] at a; rw [i_e2] at b
  omega
theorem ge0_of {x : Int32} (h : ¬ x < -1) (h2 : ¬ x = -1) : 0 ≤ x := by
  refine Int32.le_iff_toInt_le.mpr ?_
  have a : ¬ x.toInt < -1 := fun q => h (Int32.lt_iff_toInt_lt.mpr (by rw [i_em1]; exact q))
  have b : ¬ x.toInt = -1 := fun q => h2 (Int32.toInt_inj.mp (by rw [i_em1]; exact q))
  rw [i_e0]
  omega
theorem two (x : Int32) : (x < 0 ∨ 1 < x) ∨ x = 0 ∨ x = 1 := by
  by_cases h : x < 0 ∨ 1 < x
  · exact Or.inl h
  · have a : ¬ x.toInt < 0 := fun q => h (Or.inl (Int32.lt_iff_toInt_lt.mpr (by rw [i_e0]; exact q)))
    have b : ¬ 1 < x.toInt := fun q => h (Or.inr (Int32.lt_iff_toInt_lt.mpr (by rw [i_e1]; exact q)))
    rcases (by omega : x.toInt = 0 ∨ x.toInt = 1) with q | q
    · exact Or.inr (Or.inl (swe (q.trans (by decide))))
    · exact Or.inr (Or.inr (swe (q.trans (by decide))))
theorem four (x : Int32) : (x < 0 ∨ 3 < x) ∨ x = 0 ∨ x = 1 ∨ x = 2 ∨ x = 3 := by
  by_cases h : x < 0 ∨ 3 < x
  · exact Or.inl h
  · have a : ¬ x.toInt < 0 := fun q => h (Or.inl (Int32.lt_iff_toInt_lt.mpr (by rw [i_e0]; exact q)))
    have b : ¬ 3 < x.toInt := fun q => h (Or.inr (Int32.lt_iff_toInt_lt.mpr (by rw [show (3 : Int32).toInt = 3 by decide]; exact q)))
    rcases (by omega : x.toInt = 0 ∨ x.toInt = 1 ∨ x.toInt = 2 ∨ x.toInt = 3) with q | q | q | q
    · exact Or.inr (Or.inl (swe (q.trans (by decide))))
    · exact Or.inr (Or.inr (Or.inl (swe (q.trans (by decide)))))
    · exact Or.inr (Or.inr (Or.inr (Or.inl (swe (q.trans (by decide))))))
    · exact Or.inr (Or.inr (Or.inr (Or.inr (swe (q.trans (by decide))))))
theorem l_lt {x y : Int32} : x.toInt64 < y.toInt64 ↔ x < y := by
  rw [Int64.lt_iff_toInt_lt, Int32.lt_iff_toInt_lt]
  simp
theorem in0 (r : Int64) : r < 0 ∨ -1 < r := by
  by_cases h : r < 0
  · exact Or.inl h
  · refine Or.inr (Int64.lt_iff_toInt_lt.mpr ?_)
    have a : ¬ r.toInt < 0 := fun q => h (Int64.lt_iff_toInt_lt.mpr (by rw [show (0 : Int64).toInt = 0 by decide]; exact q))
    rw [show (-1 : Int64).toInt = -1 by decide]
    omega
