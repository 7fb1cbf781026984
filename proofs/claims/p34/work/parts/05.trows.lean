/-! numbers: a row gives its answer a name, and what is known of it -/
theorem i32b (x : Int32) : -2147483648 ≤ x.toInt ∧ x.toInt ≤ 2147483647 := by
  have h1 := Int32.le_toInt x
  have h2 := Int32.toInt_lt x
  omega
theorem i_add {x y : Int32} (h1 : -2147483648 ≤ x.toInt + y.toInt) (h2 : x.toInt + y.toInt ≤ 2147483647) : (x + y).toInt = x.toInt + y.toInt := by
  rw [Int32.toInt_add]; exact Int.bmod_eq_of_le (by omega) (by omega)
theorem i_sub {x y : Int32} (h1 : -2147483648 ≤ x.toInt - y.toInt) (h2 : x.toInt - y.toInt ≤ 2147483647) : (x - y).toInt = x.toInt - y.toInt := by
  rw [Int32.toInt_sub]; exact Int.bmod_eq_of_le (by omega) (by omega)
theorem i_mul {x y : Int32} (h1 : -2147483648 ≤ x.toInt * y.toInt) (h2 : x.toInt * y.toInt ≤ 2147483647) : (x * y).toInt = x.toInt * y.toInt := by
  rw [Int32.toInt_mul]; exact Int.bmod_eq_of_le (by omega) (by omega)
theorem i_neg {x : Int32} (h1 : -2147483648 < x.toInt) : (-x).toInt = -x.toInt := by
  have := i32b x
  rw [Int32.toInt_neg]; exact Int.bmod_eq_of_le (by omega) (by omega)
theorem i_div {x y : Int32} {c : Int} (hy : y.toInt = c) (hc : 0 < c) (hx : 0 ≤ x.toInt) : (x / y).toInt = x.toInt / c := by
  rw [Int32.toInt_div_of_ne_right _ _ (fun h => by rw [h] at hy; have : (-1 : Int32).toInt = -1 := by decide
                                                   omega), hy, Int.tdiv_eq_ediv_of_nonneg hx]
theorem i_ne0 {y : Int32} (h : y.toInt ≠ 0) : ¬ y = 0 := fun e => h (by rw [e]; decide)
theorem i_rem {x y : Int32} {c : Int} (hy : y.toInt = c) (hc : 0 < c) (hx : 0 ≤ x.toInt) : (x - x / y * y).toInt = x.toInt % c := by
  have hb := i32b x
  have h1 := i_div hy hc hx
  have h3 : x.toInt / c * c ≤ x.toInt := Int.ediv_mul_le _ (by omega)
  have h4 : 0 ≤ x.toInt / c * c := Int.mul_nonneg (Int.ediv_nonneg hx (by omega)) (by omega)
  have h2 : (x / y * y).toInt = x.toInt / c * c := by
    rw [i_mul, h1, hy]
    · rw [h1, hy]; omega
    · rw [h1, hy]; omega
  rw [i_sub, h2]
  · have := Int.mul_ediv_add_emod x.toInt c
    rw [Int.mul_comm] at this
    omega
  · rw [h2]; omega
  · rw [h2]; omega
theorem nar01 {v : Int32} (h : 0 ≤ v.toInt ∧ v.toInt ≤ 1) : narrow .boolean (.int v) = .int v := by
  rcases (by omega : v.toInt = 0 ∨ v.toInt = 1) with e | e
  · have : v = 0 := swe (e.trans (by decide))
    subst this; rfl
  · have : v = 1 := swe (e.trans (by decide))
    subst this; rfl
theorem fit01 {v : Int32} (h : 0 ≤ v.toInt ∧ v.toInt ≤ 1) : fits .boolean (.int v) = true := by
  rcases (by omega : v.toInt = 0 ∨ v.toInt = 1) with e | e
  · have : v = 0 := swe (e.trans (by decide))
    subst this; rfl
  · have : v = 1 := swe (e.trans (by decide))
    subst this; rfl
theorem narZ (v : Int32) : 0 ≤ (vp_nar .boolean v).toInt ∧ (vp_nar .boolean v).toInt ≤ 1 := by
  have h : vp_nar .boolean v = v &&& 1 := rfl
  rw [h]
  have h1 : (v &&& 1).toBitVec.toNat = v.toBitVec.toNat % 2 := by
    rw [Int32.toBitVec_and, BitVec.toNat_and]
    exact Nat.and_one_is_mod _
  have h2 : (v &&& 1).toInt = ((v &&& 1).toBitVec.toNat : Int) := BitVec.toInt_eq_toNat_of_lt (by omega)
  omega
theorem narB (v : Int32) : -128 ≤ (vp_nar .byte v).toInt ∧ (vp_nar .byte v).toInt ≤ 127 := by
  have h : vp_nar .byte v = v.toInt8.toInt32 := rfl
  rw [h, Int8.toInt_toInt32]
  have h1 := Int8.le_toInt v.toInt8
  have h2 := Int8.toInt_lt v.toInt8
  omega
theorem eqb {x : Int32} {a : Int} (h : x.toInt = a) : a ≤ x.toInt ∧ x.toInt ≤ a := ⟨by omega, by omega⟩
theorem wkb {x lo hi lo' hi' : Int} (h : lo ≤ x ∧ x ≤ hi) (h1 : decide (lo' ≤ lo) = true) (h2 : decide (hi ≤ hi') = true) : lo' ≤ x ∧ x ≤ hi' := ⟨Int.le_trans (of_decide_eq_true h1) h.1, Int.le_trans h.2 (of_decide_eq_true h2)⟩
theorem ixb {x lo hi : Int} {n : Nat} (h : lo ≤ x ∧ x ≤ hi) (h1 : decide (0 ≤ lo) = true) (h2 : decide (hi < (n : Int)) = true) : 0 ≤ x ∧ x < n := ⟨Int.le_trans (of_decide_eq_true h1) h.1, Int.lt_of_le_of_lt h.2 (of_decide_eq_true h2)⟩
theorem fdI {tg : Nat → Nat} {x : Int32} {lo hi : Int} (h : lo ≤ x.toInt ∧ x.toInt ≤ hi) : fdOK tg (.inl (lo, hi)) (.int x) := ⟨x, rfl, h.1, h.2⟩
theorem fdR {tg : Nat → Nat} {q : Nat} {l : List Nat} (h : tg q ∈ l) : fdOK tg (.inr l) (.ref q) := ⟨q, rfl, h⟩
theorem iincB {x : Int32} {a b c lo hi : Int} (h : a ≤ x.toInt ∧ x.toInt ≤ b) (hc : (decide (-2147483648 ≤ lo) && decide (hi ≤ 2147483647) && decide (lo = a + c) && decide (hi = b + c) && decide ((Int32.ofInt c).toInt = c)) = true) : ∃ z : Int32, x + Int32.ofInt c = z ∧ z.toInt = x.toInt + c ∧ lo ≤ z.toInt ∧ z.toInt ≤ hi := by
  simp only [Bool.and_eq_true, decide_eq_true_eq] at hc
  obtain ⟨⟨⟨⟨h1, h2⟩, h3⟩, h4⟩, h5⟩ := hc
  have e := i_add (x := x) (y := Int32.ofInt c) (by rw [h5]; omega) (by rw [h5]; omega)
  rw [h5] at e
  exact ⟨_, rfl, e, by omega, by omega⟩
theorem iincF (x : Int32) (c : Int) : ∃ z : Int32, x + Int32.ofInt c = z := ⟨_, rfl⟩
section TROWS
variable {p : Program} {l : Launch} {e : Env} {R : Room} {s : State} {m : MethodId} {args : Array Value} {below : List Frame} {meth : Method} {c : Code} {H : Heap} {locs : List Loc} {cells slots : Nat} {Q : State → Prop}
variable {cc : ByteArray} {pc : Nat} {ls : Array Slot} {rest : List Value} {y0 : MethodName} {nL : Nat} {r0 : Option FieldType} {x y : Int32} {a1 b1 a2 b2 lo hi : Int}
theorem topK {a : Int} (h : x.toInt = a) (kk : ∀ z : Int32, z.toInt = a → W p l e R s m args below meth c H locs cells slots Q (F0 m pc ls (.int z :: rest))) : W p l e R s m args below meth c H locs cells slots Q (F0 m pc ls (.int x :: rest)) := kk x h
theorem topF (kk : ∀ z : Int32, W p l e R s m args below meth c H locs cells slots Q (F0 m pc ls (.int z :: rest))) : W p l e R s m args below meth c H locs cells slots Q (F0 m pc ls (.int x :: rest)) := kk x
theorem topFL {x : Int64} (kk : ∀ z : Int64, W p l e R s m args below meth c H locs cells slots Q (F0 m pc ls (.long z :: rest))) : W p l e R s m args below meth c H locs cells slots Q (F0 m pc ls (.long x :: rest)) := kk x
theorem topKL {x : Int64} {a : Int} (h : x.toInt = a) (kk : ∀ z : Int64, z.toInt = a → W p l e R s m args below meth c H locs cells slots Q (F0 m pc ls (.long z :: rest))) : W p l e R s m args below meth c H locs cells slots Q (F0 m pc ls (.long x :: rest)) := kk x h
theorem tAdd (F : Fx p s m meth c args y0 cc nL r0) (hdg : decode cc pc = .ok (.iadd, 1)) (h1 : a1 ≤ x.toInt ∧ x.toInt ≤ b1) (h2 : a2 ≤ y.toInt ∧ y.toInt ≤ b2) (hc : (decide (-2147483648 ≤ lo) && decide (hi ≤ 2147483647) && decide (lo = a1 + a2) && decide (hi = b1 + b2)) = true)
    (kk : ∀ z : Int32, z.toInt = x.toInt + y.toInt ∧ lo ≤ z.toInt ∧ z.toInt ≤ hi → W p l e R s m args below meth c H locs cells slots Q (F0 m (pc + 1) ls (.int z :: rest))) : W p l e R s m args below meth c H locs cells slots Q (F0 m pc ls (.int y :: .int x :: rest)) := by
  simp only [Bool.and_eq_true, decide_eq_true_eq] at hc
  obtain ⟨⟨⟨h3, h4⟩, h5⟩, h6⟩ := hc
  have e1 := i_add (x := x) (y := y) (by omega) (by omega)
  exact lv_iadd F.1 F.2.1 hdg (kk _ ⟨e1, by omega, by omega⟩)
theorem tSub (F : Fx p s m meth c args y0 cc nL r0) (hdg : decode cc pc = .ok (.isub, 1)) (h1 : a1 ≤ x.toInt ∧ x.toInt ≤ b1) (h2 : a2 ≤ y.toInt ∧ y.toInt ≤ b2) (hc : (decide (-2147483648 ≤ lo) && decide (hi ≤ 2147483647) && decide (lo = a1 - b2) && decide (hi = b1 - a2)) = true)
    (kk : ∀ z : Int32, z.toInt = x.toInt - y.toInt ∧ lo ≤ z.toInt ∧ z.toInt ≤ hi → W p l e R s m args below meth c H locs cells slots Q (F0 m (pc + 1) ls (.int z :: rest))) : W p l e R s m args below meth c H locs cells slots Q (F0 m pc ls (.int y :: .int x :: rest)) := by
  simp only [Bool.and_eq_true, decide_eq_true_eq] at hc
  obtain ⟨⟨⟨h3, h4⟩, h5⟩, h6⟩ := hc
  have e1 := i_sub (x := x) (y := y) (by omega) (by omega)
  exact lv_isub F.1 F.2.1 hdg (kk _ ⟨e1, by omega, by omega⟩)
theorem i_mulb {X Y : Int} (h1 : a1 ≤ X ∧ X ≤ b1) (h2 : a2 ≤ Y ∧ Y ≤ b2) (ha : 0 ≤ a1) (hb : 0 ≤ a2) : a1 * a2 ≤ X * Y ∧ X * Y ≤ b1 * b2 :=
  ⟨Int.mul_le_mul h1.1 h2.1 hb (by omega), Int.mul_le_mul h1.2 h2.2 (by omega) (by omega)⟩
theorem tMul (F : Fx p s m meth c args y0 cc nL r0) (hdg : decode cc pc = .ok (.imul, 1)) (h1 : a1 ≤ x.toInt ∧ x.toInt ≤ b1) (h2 : a2 ≤ y.toInt ∧ y.toInt ≤ b2) (hc : (decide (0 ≤ a1) && decide (0 ≤ a2) && decide (hi ≤ 2147483647) && decide (lo = a1 * a2) && decide (hi = b1 * b2)) = true)
    (kk : ∀ z : Int32, z.toInt = x.toInt * y.toInt ∧ lo ≤ z.toInt ∧ z.toInt ≤ hi → W p l e R s m args below meth c H locs cells slots Q (F0 m (pc + 1) ls (.int z :: rest))) : W p l e R s m args below meth c H locs cells slots Q (F0 m pc ls (.int y :: .int x :: rest)) := by
  simp only [Bool.and_eq_true, decide_eq_true_eq] at hc
  obtain ⟨⟨⟨⟨h3, h4⟩, h5⟩, h6⟩, h7⟩ := hc
  have hm := i_mulb h1 h2 h3 h4
  have h8 : 0 ≤ a1 * a2 := Int.mul_nonneg h3 h4
  rw [← h6] at h8 hm
  rw [← h7] at hm
  have e1 := i_mul (x := x) (y := y) (by omega) (by omega)
  exact lv_imul F.1 F.2.1 hdg (kk _ ⟨e1, by omega, by omega⟩)
theorem tDiv {k : Int} (F : Fx p s m meth c args y0 cc nL r0) (hdg : decode cc pc = .ok (.idiv, 1)) (h1 : a1 ≤ x.toInt ∧ x.toInt ≤ b1) (h2 : y.toInt = k) (hc : (decide (0 ≤ a1) && decide (0 < k) && decide (lo = a1 / k) && decide (hi = b1 / k)) = true)
    (kk : ∀ z : Int32, z.toInt = x.toInt / k ∧ lo ≤ z.toInt ∧ z.toInt ≤ hi → W p l e R s m args below meth c H locs cells slots Q (F0 m (pc + 1) ls (.int z :: rest))) : W p l e R s m args below meth c H locs cells slots Q (F0 m pc ls (.int y :: .int x :: rest)) := by
  simp only [Bool.and_eq_true, decide_eq_true_eq] at hc
  obtain ⟨⟨⟨h3, h4⟩, h5⟩, h6⟩ := hc
  have e1 := i_div (x := x) h2 h4 (by omega)
  exact lv_idiv F.1 F.2.1 hdg (i_ne0 (by omega)) (kk _ ⟨e1, by rw [e1, h5]; exact Int.ediv_le_ediv h4 h1.1, by rw [e1, h6]; exact Int.ediv_le_ediv h4 h1.2⟩)
theorem tDivF (F : Fx p s m meth c args y0 cc nL r0) (hdg : decode cc pc = .ok (.idiv, 1)) (h2 : y.toInt ≠ 0) (kk : ∀ z : Int32, W p l e R s m args below meth c H locs cells slots Q (F0 m (pc + 1) ls (.int z :: rest))) : W p l e R s m args below meth c H locs cells slots Q (F0 m pc ls (.int y :: .int x :: rest)) := lv_idiv F.1 F.2.1 hdg (i_ne0 h2) (kk _)
theorem tRem {k : Int} (F : Fx p s m meth c args y0 cc nL r0) (hdg : decode cc pc = .ok (.irem, 1)) (h1 : a1 ≤ x.toInt ∧ x.toInt ≤ b1) (h2 : y.toInt = k) (hc : (decide (0 ≤ a1) && decide (0 < k) && decide (hi = k - 1)) = true)
    (kk : ∀ z : Int32, z.toInt = x.toInt % k ∧ 0 ≤ z.toInt ∧ z.toInt ≤ hi → W p l e R s m args below meth c H locs cells slots Q (F0 m (pc + 1) ls (.int z :: rest))) : W p l e R s m args below meth c H locs cells slots Q (F0 m pc ls (.int y :: .int x :: rest)) := by
  simp only [Bool.and_eq_true, decide_eq_true_eq] at hc
  obtain ⟨⟨h3, h4⟩, h6⟩ := hc
  have e1 := i_rem (x := x) h2 h4 (by omega)
  have e2 := Int.emod_nonneg x.toInt (b := k) (by omega)
  have e3 := Int.emod_lt_of_pos x.toInt h4
  exact lv_irem F.1 F.2.1 hdg (i_ne0 (by omega)) (kk _ ⟨e1, by omega, by omega⟩)
theorem tRemF (F : Fx p s m meth c args y0 cc nL r0) (hdg : decode cc pc = .ok (.irem, 1)) (h2 : y.toInt ≠ 0) (kk : ∀ z : Int32, W p l e R s m args below meth c H locs cells slots Q (F0 m (pc + 1) ls (.int z :: rest))) : W p l e R s m args below meth c H locs cells slots Q (F0 m pc ls (.int y :: .int x :: rest)) := lv_irem F.1 F.2.1 hdg (i_ne0 h2) (kk _)
theorem tNeg (F : Fx p s m meth c args y0 cc nL r0) (hdg : decode cc pc = .ok (.ineg, 1)) (h1 : a1 ≤ x.toInt ∧ x.toInt ≤ b1) (hc : (decide (-2147483648 < a1) && decide (lo = -b1) && decide (hi = -a1)) = true)
    (kk : ∀ z : Int32, z.toInt = -x.toInt ∧ lo ≤ z.toInt ∧ z.toInt ≤ hi → W p l e R s m args below meth c H locs cells slots Q (F0 m (pc + 1) ls (.int z :: rest))) : W p l e R s m args below meth c H locs cells slots Q (F0 m pc ls (.int x :: rest)) := by
  simp only [Bool.and_eq_true, decide_eq_true_eq] at hc
  obtain ⟨⟨h3, h5⟩, h6⟩ := hc
  have e1 := i_neg (x := x) (by omega)
  exact lv_ineg F.1 F.2.1 hdg (kk _ ⟨e1, by omega, by omega⟩)
theorem tI2l (F : Fx p s m meth c args y0 cc nL r0) (hdg : decode cc pc = .ok (.i2l, 1)) (kk : ∀ z : Int64, z.toInt = x.toInt → W p l e R s m args below meth c H locs cells slots Q (F0 m (pc + 1) ls (.long z :: rest))) : W p l e R s m args below meth c H locs cells slots Q (F0 m pc ls (.int x :: rest)) := lv_i2l F.1 F.2.1 hdg rfl (kk _ (by simp))
theorem tLcmp {x y : Int64} (F : Fx p s m meth c args y0 cc nL r0) (hdg : decode cc pc = .ok (.lcmp, 1)) (kk : ∀ z : Int32, (z.toInt = 1 ∧ y.toInt < x.toInt) ∨ (z.toInt = 0 ∧ x.toInt = y.toInt) ∨ (z.toInt = -1 ∧ x.toInt < y.toInt) → W p l e R s m args below meth c H locs cells slots Q (F0 m (pc + 1) ls (.int z :: rest))) : W p l e R s m args below meth c H locs cells slots Q (F0 m pc ls (.long y :: .long x :: rest)) := by
  refine W.lcmp F.1 F.2.1 hdg (kk _ ?_)
  unfold lg_cmp
  by_cases h : x > y
  · rw [if_pos h]; exact Or.inl ⟨by decide, Int64.lt_iff_toInt_lt.mp h⟩
  · rw [if_neg h]
    by_cases h2 : x = y
    · rw [if_pos h2]; exact Or.inr (Or.inl ⟨by decide, by rw [h2]⟩)
    · rw [if_neg h2]
      refine Or.inr (Or.inr ⟨by decide, ?_⟩)
      have h3 : ¬ y.toInt < x.toInt := fun q => h (Int64.lt_iff_toInt_lt.mpr q)
      have h4 : x.toInt ≠ y.toInt := fun q => h2 (Int64.toInt_inj.mp q)
      omega
theorem l_ne0 {y : Int64} (h : y.toInt ≠ 0) : ¬ y = 0 := fun e => h (by rw [e]; decide)
variable {off : Int} {tgt : Nat}
theorem b_lt (F : Fx p s m meth c args y0 cc nL r0) (hdg : decode cc pc = .ok (.if_icmp .lt off, 3)) (ht : (pc : Int) + off = (tgt : Int)) (kt : x.toInt < y.toInt → W p l e R s m args below meth c H locs cells slots Q (F0 m tgt ls rest)) (kf : y.toInt ≤ x.toInt → W p l e R s m args below meth c H locs cells slots Q (F0 m (pc + 3) ls rest)) : W p l e R s m args below meth c H locs cells slots Q (F0 m pc ls (.int y :: .int x :: rest)) :=
  lv_icmp_lt F.1 F.2.1 hdg ht (fun q => kt (Int32.lt_iff_toInt_lt.mp q)) (fun q => kf (Int.not_lt.mp fun w => q (Int32.lt_iff_toInt_lt.mpr w)))
theorem b_gt (F : Fx p s m meth c args y0 cc nL r0) (hdg : decode cc pc = .ok (.if_icmp .gt off, 3)) (ht : (pc : Int) + off = (tgt : Int)) (kt : y.toInt < x.toInt → W p l e R s m args below meth c H locs cells slots Q (F0 m tgt ls rest)) (kf : x.toInt ≤ y.toInt → W p l e R s m args below meth c H locs cells slots Q (F0 m (pc + 3) ls rest)) : W p l e R s m args below meth c H locs cells slots Q (F0 m pc ls (.int y :: .int x :: rest)) :=
  lv_icmp_gt F.1 F.2.1 hdg ht (fun q => kt (Int32.lt_iff_toInt_lt.mp q)) (fun q => kf (Int.not_lt.mp fun w => q (Int32.lt_iff_toInt_lt.mpr w)))
theorem b_ge (F : Fx p s m meth c args y0 cc nL r0) (hdg : decode cc pc = .ok (.if_icmp .ge off, 3)) (ht : (pc : Int) + off = (tgt : Int)) (kt : y.toInt ≤ x.toInt → W p l e R s m args below meth c H locs cells slots Q (F0 m tgt ls rest)) (kf : x.toInt < y.toInt → W p l e R s m args below meth c H locs cells slots Q (F0 m (pc + 3) ls rest)) : W p l e R s m args below meth c H locs cells slots Q (F0 m pc ls (.int y :: .int x :: rest)) :=
  lv_icmp_ge F.1 F.2.1 hdg ht (fun q => kt (Int32.le_iff_toInt_le.mp q)) (fun q => kf (Int.not_le.mp fun w => q (Int32.le_iff_toInt_le.mpr w)))
theorem b_le (F : Fx p s m meth c args y0 cc nL r0) (hdg : decode cc pc = .ok (.if_icmp .le off, 3)) (ht : (pc : Int) + off = (tgt : Int)) (kt : x.toInt ≤ y.toInt → W p l e R s m args below meth c H locs cells slots Q (F0 m tgt ls rest)) (kf : y.toInt < x.toInt → W p l e R s m args below meth c H locs cells slots Q (F0 m (pc + 3) ls rest)) : W p l e R s m args below meth c H locs cells slots Q (F0 m pc ls (.int y :: .int x :: rest)) :=
  lv_icmp_le F.1 F.2.1 hdg ht (fun q => kt (Int32.le_iff_toInt_le.mp q)) (fun q => kf (Int.not_le.mp fun w => q (Int32.le_iff_toInt_le.mpr w)))
theorem b_eq (F : Fx p s m meth c args y0 cc nL r0) (hdg : decode cc pc = .ok (.if_icmp .eq off, 3)) (ht : (pc : Int) + off = (tgt : Int)) (kt : x.toInt = y.toInt → W p l e R s m args below meth c H locs cells slots Q (F0 m tgt ls rest)) (kf : x.toInt ≠ y.toInt → W p l e R s m args below meth c H locs cells slots Q (F0 m (pc + 3) ls rest)) : W p l e R s m args below meth c H locs cells slots Q (F0 m pc ls (.int y :: .int x :: rest)) :=
  lv_icmp_eq F.1 F.2.1 hdg ht (fun q => kt (by rw [q])) (fun q => kf fun w => q (Int32.toInt_inj.mp w))
theorem b_ne (F : Fx p s m meth c args y0 cc nL r0) (hdg : decode cc pc = .ok (.if_icmp .ne off, 3)) (ht : (pc : Int) + off = (tgt : Int)) (kt : x.toInt ≠ y.toInt → W p l e R s m args below meth c H locs cells slots Q (F0 m tgt ls rest)) (kf : x.toInt = y.toInt → W p l e R s m args below meth c H locs cells slots Q (F0 m (pc + 3) ls rest)) : W p l e R s m args below meth c H locs cells slots Q (F0 m pc ls (.int y :: .int x :: rest)) :=
  lv_icmp_ne F.1 F.2.1 hdg ht (fun q => kt fun w => q (Int32.toInt_inj.mp w)) (fun q => kf (by first | (rw [q]) | (rw [Classical.not_not.mp q])))
theorem z_e0 : (0 : Int32).toInt = 0 := by decide
theorem z_lt (F : Fx p s m meth c args y0 cc nL r0) (hdg : decode cc pc = .ok (.ifCond .lt off, 3)) (ht : (pc : Int) + off = (tgt : Int)) (kt : x.toInt < 0 → W p l e R s m args below meth c H locs cells slots Q (F0 m tgt ls rest)) (kf : 0 ≤ x.toInt → W p l e R s m args below meth c H locs cells slots Q (F0 m (pc + 3) ls rest)) : W p l e R s m args below meth c H locs cells slots Q (F0 m pc ls (.int x :: rest)) :=
  lv_if_lt F.1 F.2.1 hdg ht (fun q => kt (z_e0 ▸ Int32.lt_iff_toInt_lt.mp q)) (fun q => kf (Int.not_lt.mp fun w => q (Int32.lt_iff_toInt_lt.mpr (z_e0.symm ▸ w))))
theorem z_ge (F : Fx p s m meth c args y0 cc nL r0) (hdg : decode cc pc = .ok (.ifCond .ge off, 3)) (ht : (pc : Int) + off = (tgt : Int)) (kt : 0 ≤ x.toInt → W p l e R s m args below meth c H locs cells slots Q (F0 m tgt ls rest)) (kf : x.toInt < 0 → W p l e R s m args below meth c H locs cells slots Q (F0 m (pc + 3) ls rest)) : W p l e R s m args below meth c H locs cells slots Q (F0 m pc ls (.int x :: rest)) :=
  lv_if_ge F.1 F.2.1 hdg ht (fun q => kt (z_e0 ▸ Int32.le_iff_toInt_le.mp q)) (fun q => kf (Int.not_le.mp fun w => q (Int32.le_iff_toInt_le.mpr (z_e0.symm ▸ w))))
theorem z_gt (F : Fx p s m meth c args y0 cc nL r0) (hdg : decode cc pc = .ok (.ifCond .gt off, 3)) (ht : (pc : Int) + off = (tgt : Int)) (kt : 0 < x.toInt → W p l e R s m args below meth c H locs cells slots Q (F0 m tgt ls rest)) (kf : x.toInt ≤ 0 → W p l e R s m args below meth c H locs cells slots Q (F0 m (pc + 3) ls rest)) : W p l e R s m args below meth c H locs cells slots Q (F0 m pc ls (.int x :: rest)) :=
  lv_if_gt F.1 F.2.1 hdg ht (fun q => kt (z_e0 ▸ Int32.lt_iff_toInt_lt.mp q)) (fun q => kf (Int.not_lt.mp fun w => q (Int32.lt_iff_toInt_lt.mpr (z_e0.symm ▸ w))))
theorem z_le (F : Fx p s m meth c args y0 cc nL r0) (hdg : decode cc pc = .ok (.ifCond .le off, 3)) (ht : (pc : Int) + off = (tgt : Int)) (kt : x.toInt ≤ 0 → W p l e R s m args below meth c H locs cells slots Q (F0 m tgt ls rest)) (kf : 0 < x.toInt → W p l e R s m args below meth c H locs cells slots Q (F0 m (pc + 3) ls rest)) : W p l e R s m args below meth c H locs cells slots Q (F0 m pc ls (.int x :: rest)) :=
  lv_if_le F.1 F.2.1 hdg ht (fun q => kt (z_e0 ▸ Int32.le_iff_toInt_le.mp q)) (fun q => kf (Int.not_le.mp fun w => q (Int32.le_iff_toInt_le.mpr (z_e0.symm ▸ w))))
theorem z_eq (F : Fx p s m meth c args y0 cc nL r0) (hdg : decode cc pc = .ok (.ifCond .eq off, 3)) (ht : (pc : Int) + off = (tgt : Int)) (kt : x.toInt = 0 → W p l e R s m args below meth c H locs cells slots Q (F0 m tgt ls rest)) (kf : x.toInt ≠ 0 → W p l e R s m args below meth c H locs cells slots Q (F0 m (pc + 3) ls rest)) : W p l e R s m args below meth c H locs cells slots Q (F0 m pc ls (.int x :: rest)) :=
  lv_if_eq F.1 F.2.1 hdg ht (fun q => kt (by rw [q]; exact z_e0)) (fun q => kf fun w => q (Int32.toInt_inj.mp (w.trans z_e0.symm)))
theorem z_ne (F : Fx p s m meth c args y0 cc nL r0) (hdg : decode cc pc = .ok (.ifCond .ne off, 3)) (ht : (pc : Int) + off = (tgt : Int)) (kt : x.toInt ≠ 0 → W p l e R s m args below meth c H locs cells slots Q (F0 m tgt ls rest)) (kf : x.toInt = 0 → W p l e R s m args below meth c H locs cells slots Q (F0 m (pc + 3) ls rest)) : W p l e R s m args below meth c H locs cells slots Q (F0 m pc ls (.int x :: rest)) :=
  lv_if_ne F.1 F.2.1 hdg ht (fun q => kt fun w => q (Int32.toInt_inj.mp (w.trans z_e0.symm))) (fun q => kf (by first | (rw [q]; exact z_e0) | (rw [Classical.not_not.mp q]; exact z_e0)))
theorem tTabOut {dflt k1 k2 : Int} {offs : Array Int} {len : Nat} (F : Fx p s m meth c args y0 cc nL r0) (hdg : decode cc pc = .ok (.tableswitch dflt k1 k2 offs, len)) (h : x.toInt < k1 ∨ k2 < x.toInt) (ht : (pc : Int) + dflt = (tgt : Int)) (k : W p l e R s m args below meth c H locs cells slots Q (F0 m tgt ls rest)) : W p l e R s m args below meth c H locs cells slots Q (F0 m pc ls (.int x :: rest)) := lv_tableOut F.1 F.2.1 hdg h ht k
theorem tTabIn {dflt k1 k2 v : Int} {offs : Array Int} {len : Nat} (F : Fx p s m meth c args y0 cc nL r0) (hdg : decode cc pc = .ok (.tableswitch dflt k1 k2 offs, len)) (h : x.toInt = v) (h1 : ¬ v < k1) (h2 : ¬ k2 < v) (ho : offs[(v - k1).toNat]? = some off) (ht : (pc : Int) + off = (tgt : Int)) (k : W p l e R s m args below meth c H locs cells slots Q (F0 m tgt ls rest)) : W p l e R s m args below meth c H locs cells slots Q (F0 m pc ls (.int x :: rest)) := lv_tableIn F.1 F.2.1 hdg (by rw [h]; exact h1) (by rw [h]; exact h2) (by rw [h]; exact ho) ht k
theorem maxE : (if x < y then y else x).toInt = max x.toInt y.toInt := by
  by_cases h : x < y
  · rw [if_pos h]; have := Int32.lt_iff_toInt_lt.mp h; omega
  · rw [if_neg h]
    have : ¬ x.toInt < y.toInt := fun q => h (Int32.lt_iff_toInt_lt.mpr q)
    omega
theorem minE : (if y < x then y else x).toInt = min x.toInt y.toInt := by
  by_cases h : y < x
  · rw [if_pos h]; have := Int32.lt_iff_toInt_lt.mp h; omega
  · rw [if_neg h]
    have : ¬ y.toInt < x.toInt := fun q => h (Int32.lt_iff_toInt_lt.mpr q)
    omega
theorem minB (h1 : a1 ≤ x.toInt ∧ x.toInt ≤ b1) (h2 : a2 ≤ y.toInt ∧ y.toInt ≤ b2) (hc : (decide (lo ≤ a1) && decide (lo ≤ a2) && (decide (b1 ≤ hi) || decide (b2 ≤ hi))) = true) {z : Int32} (hz : z.toInt = min x.toInt y.toInt) : lo ≤ z.toInt ∧ z.toInt ≤ hi := by
  simp only [Bool.and_eq_true, Bool.or_eq_true, decide_eq_true_eq] at hc
  omega
theorem maxB (h1 : a1 ≤ x.toInt ∧ x.toInt ≤ b1) (h2 : a2 ≤ y.toInt ∧ y.toInt ≤ b2) (hc : (decide (b1 ≤ hi) && decide (b2 ≤ hi) && (decide (lo ≤ a1) || decide (lo ≤ a2))) = true) {z : Int32} (hz : z.toInt = max x.toInt y.toInt) : lo ≤ z.toInt ∧ z.toInt ≤ hi := by
  simp only [Bool.and_eq_true, Bool.or_eq_true, decide_eq_true_eq] at hc
  omega
theorem tMax {index : Nat} (F : Fx p s m meth c args y0 cc nL r0) (hl1 : Cond.methodLink y0.cls index Lib.Math.max.name ∈ wsL_law) (hl2 : Cond.static Lib.Math.max.name ∈ wsL_law) (hl3 : Cond.initialized "java/lang/Math" ∈ wsL_law) (hl4 : Cond.code Lib.Math.max.name Lib.Math.max.code 2 (some .int) ∈ wsL_law) (hsz : ls.size = nL) (hframes : 1 ≤ R.frames) (hlocals : (rest.map fun v => v.category).sum + 13 ≤ R.locals) (hc : cells ≤ R.cells) (hs : slots ≤ R.slots) (hdg : decode cc pc = .ok (.invokestatic index, 3)) (h1 : a1 ≤ x.toInt ∧ x.toInt ≤ b1) (h2 : a2 ≤ y.toInt ∧ y.toInt ≤ b2) (hcb : (decide (b1 ≤ hi) && decide (b2 ≤ hi) && (decide (lo ≤ a1) || decide (lo ≤ a2))) = true)
    (kk : ∀ z : Int32, z.toInt = max x.toInt y.toInt ∧ lo ≤ z.toInt ∧ z.toInt ≤ hi → W p l e R s m args below meth c H locs cells slots Q (F0 m (pc + 3) ls (.int z :: rest))) : W p l e R s m args below meth c H locs cells slots Q (F0 m pc ls (.int y :: .int x :: rest)) := by
  obtain ⟨hx, hb, hr, hml, hown, hlk, hw, -⟩ := F
  exact va_mmax hx hb (hml.trans hsz.symm) hown (hw _ hl1) (hw _ hl2) (hw _ hl3) (hw _ hl4) hframes hlocals hc hs hdg (kk _ ⟨maxE, maxB h1 h2 hcb maxE⟩)
theorem tMin {index : Nat} (F : Fx p s m meth c args y0 cc nL r0) (hl1 : Cond.methodLink y0.cls index Lib.Math.min.name ∈ wsL_law) (hl2 : Cond.static Lib.Math.min.name ∈ wsL_law) (hl3 : Cond.initialized "java/lang/Math" ∈ wsL_law) (hl4 : Cond.code Lib.Math.min.name Lib.Math.min.code 2 (some .int) ∈ wsL_law) (hsz : ls.size = nL) (hframes : 1 ≤ R.frames) (hlocals : (rest.map fun v => v.category).sum + 13 ≤ R.locals) (hc : cells ≤ R.cells) (hs : slots ≤ R.slots) (hdg : decode cc pc = .ok (.invokestatic index, 3)) (h1 : a1 ≤ x.toInt ∧ x.toInt ≤ b1) (h2 : a2 ≤ y.toInt ∧ y.toInt ≤ b2) (hcb : (decide (lo ≤ a1) && decide (lo ≤ a2) && (decide (b1 ≤ hi) || decide (b2 ≤ hi))) = true)
    (kk : ∀ z : Int32, z.toInt = min x.toInt y.toInt ∧ lo ≤ z.toInt ∧ z.toInt ≤ hi → W p l e R s m args below meth c H locs cells slots Q (F0 m (pc + 3) ls (.int z :: rest))) : W p l e R s m args below meth c H locs cells slots Q (F0 m pc ls (.int y :: .int x :: rest)) := by
  obtain ⟨hx, hb, hr, hml, hown, hlk, hw, -⟩ := F
  exact va_mmin hx hb (hml.trans hsz.symm) hown (hw _ hl1) (hw _ hl2) (hw _ hl3) (hw _ hl4) hframes hlocals hc hs hdg (kk _ ⟨minE, minB h1 h2 hcb minE⟩)
end TROWS
section TLOOK
variable {p : Program} {l : Launch} {e : Env} {R : Room} {s : State} {m : MethodId} {args : Array Value} {below : List Frame} {meth : Method} {c : Code} {H : Heap} {locs : List Loc} {cells slots : Nat} {Q : State → Prop}
variable {cc : ByteArray} {pc : Nat} {ls : Array Slot} {rest : List Value} {y0 : MethodName} {nL : Nat} {r0 : Option FieldType} {x : Int32} {off : Int} {tgt : Nat}
theorem tLook {dflt v : Int} {ps : Array (Int × Int)} {len : Nat} (F : Fx p s m meth c args y0 cc nL r0) (hdg : decode cc pc = .ok (.lookupswitch dflt ps, len)) (h : x.toInt = v) (hp : (ps.toList.zip (ps.toList.drop 1)).all (fun (a, next) => a.1 < next.1) = true) (ho : Op.lookupswitch.offset ps.toList dflt v = off) (ht : (pc : Int) + off = (tgt : Int)) (k : W p l e R s m args below meth c H locs cells slots Q (F0 m tgt ls rest)) : W p l e R s m args below meth c H locs cells slots Q (F0 m pc ls (.int x :: rest)) := lv_lookup F.1 F.2.1 hdg hp (by rw [h]; exact ho) ht k
theorem tLookD {dflt : Int} {ps : Array (Int × Int)} {len : Nat} (F : Fx p s m meth c args y0 cc nL r0) (hdg : decode cc pc = .ok (.lookupswitch dflt ps, len)) (hp : (ps.toList.zip (ps.toList.drop 1)).all (fun (a, next) => a.1 < next.1) = true) (ho : ∀ q ∈ ps.toList, q.1 ≠ x.toInt) (ht : (pc : Int) + dflt = (tgt : Int)) (k : W p l e R s m args below meth c H locs cells slots Q (F0 m tgt ls rest)) : W p l e R s m args below meth c H locs cells slots Q (F0 m pc ls (.int x :: rest)) := by
  refine lv_lookup F.1 F.2.1 hdg hp ?_ ht k
  clear hdg hp
  generalize ps.toList = L at ho
  induction L with
  | nil => rfl
  | cons a r ih =>
    rw [Op.lookupswitch.offset_cons, if_neg (ho a List.mem_cons_self)]
    exact ih (fun q hq => ho q (List.mem_cons_of_mem _ hq))
theorem wjoin {σ : Type} {pcj : Nat} {stj : σ → List Value} {st : List Value} (inv : σ → Heap → List Loc → Array Slot → Prop) (body : ∀ (x : σ) (H : Heap) (locs : List Loc) (ls : Array Slot), inv x H locs ls → W p l e R s m args below meth c H locs cells slots Q (F0 m pcj ls (stj x))) (k : (∀ (x : σ) (H : Heap) (locs : List Loc) (ls : Array Slot), inv x H locs ls → W p l e R s m args below meth c H locs cells slots Q (F0 m pcj ls (stj x))) → W p l e R s m args below meth c H locs cells slots Q (F0 m pc ls st)) : W p l e R s m args below meth c H locs cells slots Q (F0 m pc ls st) := k body
end TLOOK
