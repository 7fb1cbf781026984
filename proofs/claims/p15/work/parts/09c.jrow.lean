/-! what a row of REACHES says: how many run into one, how far it is to the MOUTH, whether one runs to another, and all that do -/
def jCnt (D : RwF) (g : Int) : Nat → Int
  | 0 => 0
  | r + 1 => jCnt D g r + if gI D r = g then 1 else 0
def jFar (D : RwF) : Nat → Int → Int
  | 0, _ => 0
  | k + 1, r => if 0 ≤ r then 1 + jFar D k (gI D r.toNat) else 0
def jTo (D : RwF) (g : Int) : Nat → Int → Int
  | 0, _ => 0
  | k + 1, r => if 0 ≤ r then if r = g then 1 else jTo D g k (gI D r.toNat) else 0
def jAb (D : RwF) (g : Int) : Nat → Int32
  | 0 => 0
  | r + 1 => if jTo D g 12 (r : Int) = 1 then jAb D g r ||| ((1 : Int32) <<< Int32.ofNat r) else jAb D g r
def jReach (a : Int) (D K Q : RwF) (r w : Int) : Int :=
  if r < 0 ∨ a ≤ r then -1 else if 10 ≤ w ∧ w ≤ 13 then gI Q (4 * r + w - 10).toNat else if w = 0 then gI D r.toNat else if w = 1 then gI K r.toNat else if w = 2 then jCnt D r a.toNat else if w = 3 then jFar D 12 r else -1
def jAbove (a : Int) (D : RwF) (g : Int) : Int32 := if g < 0 ∨ a ≤ g then -1 else jAb D g a.toNat
/-- the three rows of REACHES in a row of the reference -/
def zD (Z : RwF) : RwF := fun r => if gI Z (6 + 6 * r) = -1 then -2 else Z (6 + 6 * r)
def zK (Z : RwF) : RwF := fun r => Z (6 + 6 * r + 1)
def zQ (Z : RwF) : RwF := fun j => Z (6 + 6 * (j / 4) + 2 + j % 4)
theorem gI_zD {Z : RwF} {r : Nat} : (gI Z (6 + 6 * r) = -1 ∧ gI (zD Z) r = -2) ∨ (gI Z (6 + 6 * r) ≠ -1 ∧ gI (zD Z) r = gI Z (6 + 6 * r)) := by
  unfold zD gI
  by_cases h : (Z (6 + 6 * r)).toInt = -1
  · left; refine ⟨h, ?_⟩; simp only; rw [if_pos h]; decide
  · right; refine ⟨h, ?_⟩; simp only; rw [if_neg h]
/-- rows alike below a, DOWN is below a: all answers are alike -/
theorem jCnt_congr {D D' : RwF} {g : Int} {n : Nat} (h : ∀ r, r < n → D r = D' r) : jCnt D g n = jCnt D' g n := by
  induction n with
  | zero => rfl
  | succ n ih =>
    rw [jCnt, jCnt, ih (fun r hr => h r (by omega))]
    unfold gI
    rw [h n (by omega)]
theorem jFar_congr {D D' : RwF} {a : Int} (h : ∀ r : Nat, (r : Int) < a → D r = D' r) (hb : ∀ r : Nat, (r : Int) < a → gI D' r < a) (k : Nat) : ∀ r : Int, r < a → jFar D k r = jFar D' k r := by
  induction k with
  | zero => intro r _; rfl
  | succ k ih =>
    intro r hr
    rw [jFar, jFar]
    by_cases h0 : 0 ≤ r
    · rw [if_pos h0, if_pos h0]
      have e : gI D r.toNat = gI D' r.toNat := congrArg Int32.toInt (h r.toNat (by omega))
      rw [e, ih _ (hb r.toNat (by omega))]
    · rw [if_neg h0, if_neg h0]
theorem jTo_congr {D D' : RwF} {a g : Int} (h : ∀ r : Nat, (r : Int) < a → D r = D' r) (hb : ∀ r : Nat, (r : Int) < a → gI D' r < a) (k : Nat) : ∀ r : Int, r < a → jTo D g k r = jTo D' g k r := by
  induction k with
  | zero => intro r _; rfl
  | succ k ih =>
    intro r hr
    rw [jTo, jTo]
    by_cases h0 : 0 ≤ r
    · rw [if_pos h0, if_pos h0]
      have e : gI D r.toNat = gI D' r.toNat := congrArg Int32.toInt (h r.toNat (by omega))
      rw [e, ih _ (hb r.toNat (by omega))]
    · rw [if_neg h0, if_neg h0]
theorem jAb_congr {D D' : RwF} {a g : Int} (h : ∀ r : Nat, (r : Int) < a → D r = D' r) (hb : ∀ r : Nat, (r : Int) < a → gI D' r < a) (n : Nat) (hn : (n : Int) ≤ a) : jAb D g n = jAb D' g n := by
  induction n with
  | zero => rfl
  | succ n ih =>
    rw [jAb, jAb, ih (by omega), jTo_congr h hb 12 (n : Int) (by omega)]
theorem jReach_congr {D D' K K' Q Q' : RwF} {a r w : Int} (h : ∀ r : Nat, (r : Int) < a → D r = D' r ∧ K r = K' r) (hq : ∀ j : Nat, (j : Int) < 4 * a → Q j = Q' j) (hb : ∀ r : Nat, (r : Int) < a → gI D' r < a) : jReach a D K Q r w = jReach a D' K' Q' r w := by
  unfold jReach
  by_cases h0 : r < 0 ∨ a ≤ r
  · rw [if_pos h0, if_pos h0]
  · rw [if_neg h0, if_neg h0]
    have e1 : gI D r.toNat = gI D' r.toNat := congrArg Int32.toInt (h r.toNat (by omega)).1
    have e2 : gI K r.toNat = gI K' r.toNat := congrArg Int32.toInt (h r.toNat (by omega)).2
    have e3 : jCnt D r a.toNat = jCnt D' r a.toNat := jCnt_congr (fun q hq => (h q (by omega)).1)
    have e4 : jFar D 12 r = jFar D' 12 r := jFar_congr (fun q hq => (h q hq).1) hb 12 r (by omega)
    rw [e1, e2, e3, e4]
    by_cases h1 : 10 ≤ w ∧ w ≤ 13
    · rw [if_pos h1, if_pos h1]
      exact congrArg Int32.toInt (hq _ (by omega))
    · rw [if_neg h1, if_neg h1]
theorem jAbove_congr {D D' : RwF} {a g : Int} (h : ∀ r : Nat, (r : Int) < a → D r = D' r) (hb : ∀ r : Nat, (r : Int) < a → gI D' r < a) : jAbove a D g = jAbove a D' g := by
  unfold jAbove
  by_cases h0 : g < 0 ∨ a ≤ g
  · rw [if_pos h0, if_pos h0]
  · rw [if_neg h0, if_neg h0, jAb_congr h hb a.toNat (by omega)]
/-- DOWN is below: more turns than there are REACHES left change nothing -/
theorem jFar_fuel {D : RwF} (hd : ∀ r : Nat, r < 12 → gI D r < r) : ∀ (k k' : Nat) (r : Int), r < 12 → r < k → r < k' → jFar D k r = jFar D k' r := by
  intro k
  induction k with
  | zero =>
    intro k' r _ h1 _
    cases k' with
    | zero => rfl
    | succ k' => rw [jFar, jFar, if_neg (by omega)]
  | succ k ih =>
    intro k' r h12 h1 h2
    cases k' with
    | zero => rw [jFar, jFar, if_neg (by omega)]
    | succ k' =>
      rw [jFar, jFar]
      by_cases h0 : 0 ≤ r
      · have := hd r.toNat (by omega)
        rw [if_pos h0, if_pos h0, ih k' _ (by omega) (by omega) (by omega)]
      · rw [if_neg h0, if_neg h0]
theorem jTo_fuel {D : RwF} {g : Int} (hd : ∀ r : Nat, r < 12 → gI D r < r) : ∀ (k k' : Nat) (r : Int), r < 12 → r < k → r < k' → jTo D g k r = jTo D g k' r := by
  intro k
  induction k with
  | zero =>
    intro k' r _ h1 _
    cases k' with
    | zero => rfl
    | succ k' => rw [jTo, jTo, if_neg (by omega)]
  | succ k ih =>
    intro k' r h12 h1 h2
    cases k' with
    | zero => rw [jTo, jTo, if_neg (by omega)]
    | succ k' =>
      rw [jTo, jTo]
      by_cases h0 : 0 ≤ r
      · have := hd r.toNat (by omega)
        rw [if_pos h0, if_pos h0, ih k' _ (by omega) (by omega) (by omega)]
      · rw [if_neg h0, if_neg h0]
/-- turns of the loops -/
theorem cnt_0 {D : RwF} {g m i : Int} (hm : m = 0) (hi : i = 0) : m = jCnt D g i.toNat := by subst hi; exact hm
theorem cnt_y {D : RwF} {g m m' i i' : Int} (h : m = jCnt D g i.toNat) (h0 : 0 ≤ i) (e : i' = i + 1) (hv : gI D i.toNat = g) (hm : m' = m + 1) : m' = jCnt D g i'.toNat := by
  subst e; rw [show (i + 1).toNat = i.toNat + 1 by omega, jCnt, if_pos hv, ← h]; exact hm
theorem cnt_n {D : RwF} {g m m' i i' : Int} (h : m = jCnt D g i.toNat) (h0 : 0 ≤ i) (e : i' = i + 1) (hv : gI D i.toNat ≠ g) (hm : m' = m) : m' = jCnt D g i'.toNat := by
  subst e; rw [show (i + 1).toNat = i.toNat + 1 by omega, jCnt, if_neg hv, ← h]; omega
theorem far_0 {D : RwF} {m i r0 r : Int} (hm : m = 0) (hi : i = 0) (hr : r = r0) : m + jFar D (12 - i).toNat r = jFar D 12 r0 := by
  subst hi; subst hr; rw [hm, show ((12 : Int) - 0).toNat = 12 from rfl]; omega
theorem far_step {D : RwF} {m m' i i' r r' C : Int} (h : m + jFar D (12 - i).toNat r = C) (h0 : 0 ≤ i) (h1 : i < 12) (hr : 0 ≤ r) (em : m' = m + 1) (ei : i' = i + 1) (er : r' = gI D r.toNat) : m' + jFar D (12 - i').toNat r' = C := by
  rw [show (12 - i).toNat = (12 - i').toNat + 1 by omega, jFar, if_pos hr] at h
  rw [er]; omega
theorem far_end {D : RwF} {m i r C : Int} (h : m + jFar D (12 - i).toNat r = C) (he : 12 ≤ i ∨ r < 0) : m = C := by
  rcases he with he | he
  · rw [show (12 - i).toNat = 0 by omega, jFar] at h; omega
  · cases hk : (12 - i).toNat with
    | zero => rw [hk, jFar] at h; omega
    | succ k => rw [hk, jFar, if_neg (by omega)] at h; omega
theorem to_0 {D : RwF} {g i r0 r : Int} (hi : i = 0) (hr : r = r0) : jTo D g (12 - i).toNat r = jTo D g 12 r0 := by
  subst hi; subst hr; rw [show ((12 : Int) - 0).toNat = 12 from rfl]
theorem to_step {D : RwF} {g i i' r r' C : Int} (h : jTo D g (12 - i).toNat r = C) (h0 : 0 ≤ i) (h1 : i < 12) (hr : 0 ≤ r) (hg : r ≠ g) (ei : i' = i + 1) (er : r' = gI D r.toNat) : jTo D g (12 - i').toNat r' = C := by
  rw [show (12 - i).toNat = (12 - i').toNat + 1 by omega, jTo, if_pos hr, if_neg hg] at h
  rw [er]; exact h
theorem to_y' {D : RwF} {g i r C v : Int} (h : jTo D g (12 - i).toNat r = C) (h1 : i < 12) (hr : 0 ≤ r) (hg : r = g) (hv : v = 1) : v = C := by
  rw [show (12 - i).toNat = (11 - i).toNat + 1 by omega, jTo, if_pos hr, if_pos hg] at h; omega
theorem to_n' {D : RwF} {g i r C v : Int} (h : jTo D g (12 - i).toNat r = C) (he : 12 ≤ i ∨ r < 0) (hv : v = 0) : v = C := by
  rcases he with he | he
  · rw [show (12 - i).toNat = 0 by omega, jTo] at h; omega
  · cases hk : (12 - i).toNat with
    | zero => rw [hk, jTo] at h; omega
    | succ k => rw [hk, jTo, if_neg (by omega)] at h; omega
theorem ab_0 {D : RwF} {g i : Int} {m : Int32} (hm : m.toInt = 0) (hi : i = 0) : m = jAb D g i.toNat := by subst hi; exact Int32.toInt_inj.mp (by rw [hm]; rfl)
theorem ab_y {D : RwF} {g : Int} {m m' s i i' : Int32} {t : Int} (h : m = jAb D g i.toInt.toNat) (h0 : 0 ≤ i.toInt) (ht : t = jTo D g 12 i.toInt) (t1 : t ≠ 0) (tb : 0 ≤ t ∧ t ≤ 1) (hs : s = (1 : Int32) <<< i) (hm : m' = m ||| s) (e : i'.toInt = i.toInt + 1) : m' = jAb D g i'.toInt.toNat := by
  have ei : Int32.ofNat i.toInt.toNat = i := by
    apply Int32.toInt_inj.mp
    have := i32b i
    rw [Int32.toInt_ofNat_of_lt (by omega)]; omega
  rw [e, show (i.toInt + 1).toNat = i.toInt.toNat + 1 by omega, jAb, show ((i.toInt.toNat : Nat) : Int) = i.toInt by omega, if_pos (by omega), ← h, ei, hm, hs]
theorem ab_n {D : RwF} {g : Int} {m m' i i' : Int32} {t : Int} (h : m = jAb D g i.toInt.toNat) (h0 : 0 ≤ i.toInt) (ht : t = jTo D g 12 i.toInt) (t1 : t = 0) (hm : m' = m) (e : i'.toInt = i.toInt + 1) : m' = jAb D g i'.toInt.toNat := by
  rw [e, show (i.toInt + 1).toNat = i.toInt.toNat + 1 by omega, jAb, show ((i.toInt.toNat : Nat) : Int) = i.toInt by omega, if_neg (by omega), ← h, hm]
/-- what the class's reading leaves, beside the fault -/
def cRow3 (x : CSt) (a b : Int) (D Q K : RwF) : Prop := x.2.2.2.1 = a ∧ x.2.2.2.2.1 = b ∧ x.2.2.2.2.2.2.1 = D ∧ x.2.2.2.2.2.2.2.1 = Q ∧ x.2.2.2.2.2.2.2.2.1 = K
theorem run_c {T D Q K R S : RwF} {n : Int} : kRun T n R S = kDrop (cRun T n D Q K R S) := by
  unfold kRun cRun
  by_cases h : rsk T n 0 < n
  · rw [if_pos h, if_pos h]; exact (kDrop_all (T := T) (n := n) 401 (x := (rsk T n 0, 0, 0, 0, 0, 0, D, Q, K, R, S))).symm
  · rw [if_neg h, if_neg h]; rfl
