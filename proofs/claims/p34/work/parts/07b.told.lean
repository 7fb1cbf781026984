/-! what is KEPT, as bits; the RIVER behind a tell; what trade answers -/
def tlr (x : Int) (a b : Nat) : List Nat := if x < 0 then [a] else [b]
theorem tlr_n {x : Int} {a b : Nat} (h : x < 0) : tlr x a b = [a] := if_pos h
theorem tlr_p {x : Int} {a b : Nat} (h : 0 ≤ x) : tlr x a b = [b] := if_neg (by omega)
theorem kb_set0 {z y K o s : Int32} {kb : Int} (e2 : z = K ||| y) (e1 : y = o <<< (s &&& 31)) (hK : K.toInt = kb) (hk : 0 ≤ kb ∧ kb ≤ 3) (ho : o.toInt = 1) (hs : s.toInt = 0) : z.toInt = kb - kb % 2 + 1 := by
  have h1 : o = 1 := swe (ho.trans (by decide))
  have h2 : s = 0 := swe (hs.trans (by decide))
  rw [e2, e1, h1, h2]
  rcases (by omega : kb = 0 ∨ kb = 1 ∨ kb = 2 ∨ kb = 3) with q | q | q | q
  · have e : K = 0 := swe ((hK.trans q).trans (by decide))
    subst e
    subst q
    decide
  · have e : K = 1 := swe ((hK.trans q).trans (by decide))
    subst e
    subst q
    decide
  · have e : K = 2 := swe ((hK.trans q).trans (by decide))
    subst e
    subst q
    decide
  · have e : K = 3 := swe ((hK.trans q).trans (by decide))
    subst e
    subst q
    decide
theorem kb_set1 {z y K o s : Int32} {kb : Int} (e2 : z = K ||| y) (e1 : y = o <<< (s &&& 31)) (hK : K.toInt = kb) (hk : 0 ≤ kb ∧ kb ≤ 3) (ho : o.toInt = 1) (hs : s.toInt = 1) : z.toInt = kb % 2 + 2 := by
  have h1 : o = 1 := swe (ho.trans (by decide))
  have h2 : s = 1 := swe (hs.trans (by decide))
  rw [e2, e1, h1, h2]
  rcases (by omega : kb = 0 ∨ kb = 1 ∨ kb = 2 ∨ kb = 3) with q | q | q | q
  · have e : K = 0 := swe ((hK.trans q).trans (by decide))
    subst e
    subst q
    decide
  · have e : K = 1 := swe ((hK.trans q).trans (by decide))
    subst e
    subst q
    decide
  · have e : K = 2 := swe ((hK.trans q).trans (by decide))
    subst e
    subst q
    decide
  · have e : K = 3 := swe ((hK.trans q).trans (by decide))
    subst e
    subst q
    decide
theorem kb_get0 {z y K o s : Int32} {kb : Int} (e2 : z = y &&& o) (e1 : y = K >>> (s &&& 31)) (hK : K.toInt = kb) (hk : 0 ≤ kb ∧ kb ≤ 3) (ho : o.toInt = 1) (hs : s.toInt = 0) : z.toInt = kb % 2 := by
  have h1 : o = 1 := swe (ho.trans (by decide))
  have h2 : s = 0 := swe (hs.trans (by decide))
  rw [e2, e1, h1, h2]
  rcases (by omega : kb = 0 ∨ kb = 1 ∨ kb = 2 ∨ kb = 3) with q | q | q | q
  · have e : K = 0 := swe ((hK.trans q).trans (by decide))
    subst e
    subst q
    decide
  · have e : K = 1 := swe ((hK.trans q).trans (by decide))
    subst e
    subst q
    decide
  · have e : K = 2 := swe ((hK.trans q).trans (by decide))
    subst e
    subst q
    decide
  · have e : K = 3 := swe ((hK.trans q).trans (by decide))
    subst e
    subst q
    decide
theorem kb_get1 {z y K o s : Int32} {kb : Int} (e2 : z = y &&& o) (e1 : y = K >>> (s &&& 31)) (hK : K.toInt = kb) (hk : 0 ≤ kb ∧ kb ≤ 3) (ho : o.toInt = 1) (hs : s.toInt = 1) : z.toInt = kb / 2 := by
  have h1 : o = 1 := swe (ho.trans (by decide))
  have h2 : s = 1 := swe (hs.trans (by decide))
  rw [e2, e1, h1, h2]
  rcases (by omega : kb = 0 ∨ kb = 1 ∨ kb = 2 ∨ kb = 3) with q | q | q | q
  · have e : K = 0 := swe ((hK.trans q).trans (by decide))
    subst e
    subst q
    decide
  · have e : K = 1 := swe ((hK.trans q).trans (by decide))
    subst e
    subst q
    decide
  · have e : K = 2 := swe ((hK.trans q).trans (by decide))
    subst e
    subst q
    decide
  · have e : K = 3 := swe ((hK.trans q).trans (by decide))
    subst e
    subst q
    decide
/-- what trade answers, of n RIGHTS -/
def trA (n a b : Int) : Int := if 0 ≤ a ∧ a < n ∧ 0 ≤ b ∧ b < n ∧ a ≠ b then 1 else -1
theorem trA_y {n a b v : Int} (h : (0 ≤ a ∧ a < n) ∧ (0 ≤ b ∧ b < n) ∧ a ≠ b) (hv : v = 1) : v = trA n a b := by
  unfold trA
  rw [if_pos (by omega), hv]
theorem trA_n {n a b v : Int} (h : ¬ (0 ≤ a ∧ a < n ∧ 0 ≤ b ∧ b < n ∧ a ≠ b)) (hv : v = -1) : v = trA n a b := by
  unfold trA
  rw [if_neg h, hv]
