/-! numbers as bytes -/
def bB (x : Int32) (s : Int) : Int32 := ((x >>> (Int32.ofInt s &&& 31)).toInt8.toInt32).toInt8.toInt32
def putF (T : RwF) (t : Int) (x : Int32) (k : Int) : RwF := fun j => if t ≤ (j : Int) ∧ (j : Int) < t + k then bB x (24 - 8 * ((j : Int) - t)) else T j
theorem nar_b (v : Int32) : vp_nar .byte v = v.toInt8.toInt32 := rfl
theorem i8i8 (v : Int32) : v.toInt8.toInt32.toInt8 = v.toInt8 := by simp
theorem sh8 (x : Int32) (s : Nat) (hs : s ≤ 24) : ((x.toUInt32 >>> UInt32.ofNat s).toInt32).toInt8 = (x >>> Int32.ofNat s).toInt8 := by
  apply Int8.toBitVec_inj.mp
  have e1 : ((x.toUInt32 >>> UInt32.ofNat s).toInt32).toInt8.toBitVec = (x.toBitVec >>> s).signExtend 8 := by
    show ((x.toUInt32 >>> UInt32.ofNat s).toBitVec).signExtend 8 = _
    rw [UInt32.toBitVec_shiftRight]
    congr 1
    show x.toBitVec >>> (BitVec.ofNat 32 s % 32#32) = _
    have : (BitVec.ofNat 32 s % 32#32) = BitVec.ofNat 32 s := by
      apply BitVec.eq_of_toNat_eq
      rw [BitVec.toNat_umod]
      simp
      omega
    rw [this, BitVec.ushiftRight_eq']
    congr 1
    simp
    omega
  have e2 : (x >>> Int32.ofNat s).toInt8.toBitVec = (x.toBitVec.sshiftRight s).signExtend 8 := by
    show ((x >>> Int32.ofNat s).toBitVec).signExtend 8 = _
    rw [Int32.toBitVec_shiftRight]
    congr 1
    have : ((Int32.ofNat s).toBitVec.smod 32) = BitVec.ofNat 32 s := by
      show (BitVec.ofNat 32 s).smod 32#32 = _
      revert hs
      have key : ∀ k : Fin 25, (BitVec.ofNat 32 k.val).smod 32#32 = BitVec.ofNat 32 k.val := by decide +kernel
      intro hs
      exact key ⟨s, by omega⟩
    rw [this, BitVec.sshiftRight_eq']
    congr 1
    simp
    omega
  rw [e1, e2]
  apply BitVec.eq_of_getLsbD_eq
  intro i hi
  rw [BitVec.getLsbD_signExtend, BitVec.getLsbD_signExtend]
  have h1 : s + i < 32 := by omega
  have h2 : ¬ 32 ≤ i := by omega
  rw [if_pos (by omega), if_pos (by omega), BitVec.getLsbD_ushiftRight, BitVec.getLsbD_sshiftRight]
  simp [h1, h2]
theorem cls_byte {x y z1 z2 : Int32} {s : Int} (h1 : z1 = (x.toUInt32 >>> (y.toUInt32 &&& Int32.toUInt32 31)).toInt32) (h2 : z2 = z1.toInt8.toInt32) (hy : y.toInt = s) (hs : s = 24 ∨ s = 16 ∨ s = 8 ∨ s = 0) : vp_nar .byte z2 = bB x s := by
  subst h1; subst h2
  rw [nar_b]
  unfold bB
  rw [i8i8, i8i8]
  have e : y = Int32.ofInt s := by rw [← hy]; exact (Int32.ofInt_toInt y).symm
  rw [e]
  rcases hs with h | h | h | h
  · subst h; exact congrArg Int8.toInt32 (sh8 x 24 (by omega))
  · subst h; exact congrArg Int8.toInt32 (sh8 x 16 (by omega))
  · subst h; exact congrArg Int8.toInt32 (sh8 x 8 (by omega))
  · subst h; exact congrArg Int8.toInt32 (sh8 x 0 (by omega))
theorem ref_byte {x y z1 z2 : Int32} {s : Int} (h1 : z1 = x >>> (y &&& 31)) (h2 : z2 = z1.toInt8.toInt32) (hy : y.toInt = s) : vp_nar .byte z2 = bB x s := by
  subst h1; subst h2
  have e : y = Int32.ofInt s := by rw [← hy]; exact (Int32.ofInt_toInt y).symm
  rw [e, nar_b]; rfl
theorem put_0 {T : RwF} {t k : Int} {x : Int32} (hk : k = 0) : T = putF T t x k := by
  subst hk; funext j; unfold putF; rw [if_neg (by omega)]
theorem put_step {T G N : RwF} {t k k' : Int} {x b i : Int32} (h : G = putF T t x k) (hN : N = upd G i.toNatClampNeg b) (hb : b = bB x (24 - 8 * k)) (hi : i.toInt = t + k) (h0 : 0 ≤ t) (hk : 0 ≤ k) (e : k' = k + 1) : N = putF T t x k' := by
  subst hN; subst h; subst hb; subst e
  funext j
  show (if j = i.toInt.toNat then _ else _) = _
  unfold putF
  by_cases hj : j = i.toInt.toNat
  · rw [if_pos hj, if_pos (by omega), show ((j : Int) - t) = k by omega]
  · rw [if_neg hj]
    by_cases h2 : t ≤ (j : Int) ∧ (j : Int) < t + k
    · rw [if_pos h2, if_pos (by omega)]
    · rw [if_neg h2, if_neg (by omega)]
def feedT (T : RwF) (t : Int) (a b c d e : Int32) : RwF := if t + 20 ≤ 400 then putF (putF (putF (putF (putF T t a 4) (t + 4) b 4) (t + 8) c 4) (t + 12) d 4) (t + 16) e 4 else T
theorem feed_no {T : RwF} {t : Int} {a b c d e : Int32} (h : 400 < t + 20) : T = feedT T t a b c d e := by unfold feedT; rw [if_neg (by omega)]
theorem feed_yes {T T1 T2 T3 T4 T5 : RwF} {t t1 t2 t3 t4 : Int} {a b c d e : Int32} (h1 : T1 = putF T t a 4) (h2 : T2 = putF T1 t1 b 4) (h3 : T3 = putF T2 t2 c 4) (h4 : T4 = putF T3 t3 d 4) (h5 : T5 = putF T4 t4 e 4) (h : t + 20 ≤ 400) (e1 : t1 = t + 4) (e2 : t2 = t + 8) (e3 : t3 = t + 12) (e4 : t4 = t + 16) : T5 = feedT T t a b c d e := by
  subst h1; subst h2; subst h3; subst h4; subst h5; subst e1; subst e2; subst e3; subst e4
  unfold feedT; rw [if_pos h]
theorem put_ivP {n : Nat} {T : RwF} {t k : Int} {x : Int32} (h : ivP n (-128) 127 T) : ivP n (-128) 127 (putF T t x k) := by
  intro j hj
  unfold putF
  split
  · have := narB (((x >>> (Int32.ofInt (24 - 8 * ((j : Int) - t)) &&& 31)).toInt8.toInt32))
    exact this
  · exact h j hj
theorem put_end {T G : RwF} {t k : Int} {x : Int32} (h : G = putF T t x k) (hk : k = 4) : G = putF T t x 4 := hk ▸ h
