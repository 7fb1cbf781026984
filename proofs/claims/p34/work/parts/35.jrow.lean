/-! rows copied, exactly -/
theorem cpyX_iv {f g N : Nat → Int32} {n : Nat} {lo hi : Int} (hf : ivP n lo hi f) (hg : ivP n lo hi g) (e : N = va_cpy f g 0 0 n) : ivP n lo hi N := by
  subst e; exact ivP_cpy hf hg (Nat.le_refl n)
theorem cpyX_at {f g N : Nat → Int32} {n : Nat} (e : N = va_cpy f g 0 0 n) : ∀ j : Nat, j < n → N j = f j := by
  intro j hj
  rw [e]
  show (if 0 ≤ j ∧ j < 0 + n then f (0 + (j - 0)) else g j) = f j
  rw [if_pos (by omega), show 0 + (j - 0) = j by omega]
theorem gI_toN {F : Nat → Int32} {z i : Int32} (e : z = F i.toNatClampNeg) : gI F i.toInt.toNat = z.toInt := by rw [e]; rfl
theorem ivX {n : Nat} {lo hi : Int} {D f : Nat → Int32} (h : ivP n lo hi D) (e : f = D) : ivP n lo hi f := by rw [e]; exact h
/-! both readers from the start to the end (a draft: not yet compiled; sim_all of pure14, as in tells_alike of pure17) -/
theorem sim_run {T D Q K R S X : RwF} {n : Int} (hn : 0 ≤ n) (hX : ∀ j : Nat, j < 660 → j ≠ 4 → xI X j = 0) : CMP n (cRun T n D Q K R S) (mRun T n X) := by
  have hq := rsk_le (T := T) (n := n) (p := 0) hn
  have hs : Sim n (rsk T n 0, 0, 0, 0, 0, 0, D, Q, K, R, S) (rsk T n 0, 0, X) := by
    have z0 : xI X 0 = 0 := hX 0 (by omega) (by omega)
    have z1 : xI X 1 = 0 := hX 1 (by omega) (by omega)
    have z2 : xI X 2 = 0 := hX 2 (by omega) (by omega)
    unfold Sim
    simp only [z0, z1, z2]
    refine ⟨trivial, hq.2, trivial, trivial, trivial, trivial, trivial, by omega, by omega, by omega, ?_, ?_, ?_, ?_, ?_, ?_⟩
    · intro r hr; exact absurd hr (by simp)
    · intro r q hr; exact absurd hr (by simp)
    · intro r hr; exact absurd hr (by simp)
    · intro r h1 _; exact hX _ (by omega) (by omega)
    · intro r hr; exact absurd hr (by simp)
    · intro r hr; exact absurd hr (by simp)
  unfold cRun mRun
  by_cases hlt : rsk T n 0 < n
  · rw [if_pos hlt, if_pos hlt]
    exact sim_all 401 hs hq.1
  · rw [if_neg hlt, if_neg hlt]
    exact Or.inl ⟨rfl, hs⟩
/-! what a row of REACHES says: how many run into one, how far it is to the MOUTH, whether one runs to another, and all that do -/
def jCnt (D : RwF) (g : Int) : Nat → Int
  | 0 => 0
  | r + 1 => jCnt D g r + if gI D r = g then 1 else 0
def jFar (D : RwF) : Nat → Int → Int
  | 0, _ => 0
  | k + 1, r => if 0 ≤ r then 1 + jFar D k (gI D r.toNat) else 0
def jTo (D : RwF) (g : Int) : Nat → Int → Int
  | 0, _ => 0
  | k + 1, r => if 0 ≤ r then if r = g then 1 else jTo D g k (gI D r.toNat) else 0
def jAb (D : RwF) (g : Int) : Nat → Int32
  | 0 => 0
  | r + 1 => if jTo D g 12 (r : Int) = 1 then jAb D g r ||| ((1 : Int32) <<< (Int32.ofNat r &&& 31)) else jAb D g r
def jReach (a : Int) (D K Q : RwF) (r w : Int) : Int :=
  if r < 0 ∨ a ≤ r then -1 else if 10 ≤ w ∧ w ≤ 13 then gI Q (4 * r + w - 10).toNat else if w = 0 then gI D r.toNat else if w = 1 then gI K r.toNat else if w = 2 then jCnt D r a.toNat else if w = 3 then jFar D 12 r else -1
def jAbove (a : Int) (D : RwF) (g : Int) : Int32 := if g < 0 ∨ a ≤ g then -1 else jAb D g a.toNat
/-- the three rows of REACHES in a row of the reference -/
def zD (Z : RwF) : RwF := fun r => if gI Z (6 + 6 * r) = -1 then -2 else Z (6 + 6 * r)
def zK (Z : RwF) : RwF := fun r => Z (6 + 6 * r + 1)
def zQ (Z : RwF) : RwF := fun j => Z (6 + 6 * (j / 4) + 2 + j % 4)
theorem gI_zD {Z : RwF} {r : Nat} : (gI Z (6 + 6 * r) = -1 ∧ gI (zD Z) r = -2) ∨ (gI Z (6 + 6 * r) ≠ -1 ∧ gI (zD Z) r = gI Z (6 + 6 * r)) := by
  unfold zD gI
  by_cases h : (Z (6 + 6 * r)).toInt = -1
  · left; refine ⟨h, ?_⟩; simp only; rw [if_pos h]; decide
  · right; refine ⟨h, ?_⟩; simp only; rw [if_neg h]
/-- rows alike below a, DOWN is below a: all answers are alike -/
theorem jCnt_congr {D D' : RwF} {g : Int} {n : Nat} (h : ∀ r, r < n → D r = D' r) : jCnt D g n = jCnt D' g n := by
  induction n with
  | zero => rfl
  | succ n ih =>
    rw [jCnt, jCnt, ih (fun r hr => h r (by omega))]
    unfold gI
    rw [h n (by omega)]
theorem jFar_congr {D D' : RwF} {a : Int} (h : ∀ r : Nat, (r : Int) < a → D r = D' r) (hb : ∀ r : Nat, (r : Int) < a → gI D' r < a) (k : Nat) : ∀ r : Int, r < a → jFar D k r = jFar D' k r := by
  induction k with
  | zero => intro r _; rfl
  | succ k ih =>
    intro r hr
    rw [jFar, jFar]
    by_cases h0 : 0 ≤ r
    · rw [if_pos h0, if_pos h0]
      have e : gI D r.toNat = gI D' r.toNat := congrArg Int32.toInt (h r.toNat (by omega))
      rw [e, ih _ (hb r.toNat (by omega))]
    · rw [if_neg h0, if_neg h0]
theorem jTo_congr {D D' : RwF} {a g : Int} (h : ∀ r : Nat, (r : Int) < a → D r = D' r) (hb : ∀ r : Nat, (r : Int) < a → gI D' r < a) (k : Nat) : ∀ r : Int, r < a → jTo D g k r = jTo D' g k r := by
  induction k with
  | zero => intro r _; rfl
  | succ k ih =>
    intro r hr
    rw [jTo, jTo]
    by_cases h0 : 0 ≤ r
    · rw [if_pos h0, if_pos h0]
      have e : gI D r.toNat = gI D' r.toNat := congrArg Int32.toInt (h r.toNat (by omega))
      rw [e, ih _ (hb r.toNat (by omega))]
    · rw [if_neg h0, if_neg h0]
theorem jAb_congr {D D' : RwF} {a g : Int} (h : ∀ r : Nat, (r : Int) < a → D r = D' r) (hb : ∀ r : Nat, (r : Int) < a → gI D' r < a) (n : Nat) (hn : (n : Int) ≤ a) : jAb D g n = jAb D' g n := by
  induction n with
  | zero => rfl
  | succ n ih =>
    rw [jAb, jAb, ih (by omega), jTo_congr h hb 12 (n : Int) (by omega)]
theorem jReach_congr {D D' K K' Q Q' : RwF} {a r w : Int} (h : ∀ r : Nat, (r : Int) < a → D r = D' r ∧ K r = K' r) (hq : ∀ j : Nat, (j : Int) < 4 * a → Q j = Q' j) (hb : ∀ r : Nat, (r : Int) < a → gI D' r < a) : jReach a D K Q r w = jReach a D' K' Q' r w := by
  unfold jReach
  by_cases h0 : r < 0 ∨ a ≤ r
  · rw [if_pos h0, if_pos h0]
  · rw [if_neg h0, if_neg h0]
    have e1 : gI D r.toNat = gI D' r.toNat := congrArg Int32.toInt (h r.toNat (by omega)).1
    have e2 : gI K r.toNat = gI K' r.toNat := congrArg Int32.toInt (h r.toNat (by omega)).2
    have e3 : jCnt D r a.toNat = jCnt D' r a.toNat := jCnt_congr (fun q hq => (h q (by omega)).1)
    have e4 : jFar D 12 r = jFar D' 12 r := jFar_congr (fun q hq => (h q hq).1) hb 12 r (by omega)
    rw [e1, e2, e3, e4]
    by_cases h1 : 10 ≤ w ∧ w ≤ 13
    · rw [if_pos h1, if_pos h1]
      exact congrArg Int32.toInt (hq _ (by omega))
    · rw [if_neg h1, if_neg h1]
theorem jAbove_congr {D D' : RwF} {a g : Int} (h : ∀ r : Nat, (r : Int) < a → D r = D' r) (hb : ∀ r : Nat, (r : Int) < a → gI D' r < a) : jAbove a D g = jAbove a D' g := by
  unfold jAbove
  by_cases h0 : g < 0 ∨ a ≤ g
  · rw [if_pos h0, if_pos h0]
  · rw [if_neg h0, if_neg h0, jAb_congr h hb a.toNat (by omega)]
/-- DOWN is below: more turns than there are REACHES left change nothing -/
theorem jFar_fuel {D : RwF} (hd : ∀ r : Nat, r < 12 → gI D r < r) : ∀ (k k' : Nat) (r : Int), r < 12 → r < k → r < k' → jFar D k r = jFar D k' r := by
  intro k
  induction k with
  | zero =>
    intro k' r _ h1 _
    cases k' with
    | zero => rfl
    | succ k' => rw [jFar, jFar, if_neg (by omega)]
  | succ k ih =>
    intro k' r h12 h1 h2
    cases k' with
    | zero => rw [jFar, jFar, if_neg (by omega)]
    | succ k' =>
      rw [jFar, jFar]
      by_cases h0 : 0 ≤ r
      · have := hd r.toNat (by omega)
        rw [if_pos h0, if_pos h0, ih k' _ (by omega) (by omega) (by omega)]
      · rw [if_neg h0, if_neg h0]
theorem jTo_fuel {D : RwF} {g : Int} (hd : ∀ r : Nat, r < 12 → gI D r < r) : ∀ (k k' : Nat) (r : Int), r < 12 → r < k → r < k' → jTo D g k r = jTo D g k' r := by
  intro k
  induction k with
  | zero =>
    intro k' r _ h1 _
    cases k' with
    | zero => rfl
    | succ k' => rw [jTo, jTo, if_neg (by omega)]
  | succ k ih =>
    intro k' r h12 h1 h2
    cases k' with
    | zero => rw [jTo, jTo, if_neg (by omega)]
    | succ k' =>
      rw [jTo, jTo]
      by_cases h0 : 0 ≤ r
      · have := hd r.toNat (by omega)
        rw [if_pos h0, if_pos h0, ih k' _ (by omega) (by omega) (by omega)]
      · rw [if_neg h0, if_neg h0]
/-- turns of the loops -/
theorem cnt_0 {D : RwF} {g m i : Int} (hm : m = 0) (hi : i = 0) : m = jCnt D g i.toNat := by subst hi; exact hm
theorem cnt_y {D : RwF} {g m m' i i' : Int} (h : m = jCnt D g i.toNat) (h0 : 0 ≤ i) (e : i' = i + 1) (hv : gI D i.toNat = g) (hm : m' = m + 1) : m' = jCnt D g i'.toNat := by
  subst e; rw [show (i + 1).toNat = i.toNat + 1 by omega, jCnt, if_pos hv, ← h]; exact hm
theorem cnt_n {D : RwF} {g m m' i i' : Int} (h : m = jCnt D g i.toNat) (h0 : 0 ≤ i) (e : i' = i + 1) (hv : gI D i.toNat ≠ g) (hm : m' = m) : m' = jCnt D g i'.toNat := by
  subst e; rw [show (i + 1).toNat = i.toNat + 1 by omega, jCnt, if_neg hv, ← h]; omega
theorem far_0 {D : RwF} {m i r0 r : Int} (hm : m = 0) (hi : i = 0) (hr : r = r0) : m + jFar D (12 - i).toNat r = jFar D 12 r0 := by
  subst hi; subst hr; rw [hm, show ((12 : Int) - 0).toNat = 12 from rfl]; omega
theorem far_step {D : RwF} {m m' i i' r r' C : Int} (h : m + jFar D (12 - i).toNat r = C) (h0 : 0 ≤ i) (h1 : i < 12) (hr : 0 ≤ r) (em : m' = m + 1) (ei : i' = i + 1) (er : r' = gI D r.toNat) : m' + jFar D (12 - i').toNat r' = C := by
  rw [show (12 - i).toNat = (12 - i').toNat + 1 by omega, jFar, if_pos hr] at h
  rw [er]; omega
theorem far_end {D : RwF} {m i r C : Int} (h : m + jFar D (12 - i).toNat r = C) (he : 12 ≤ i ∨ r < 0) : m = C := by
  rcases he with he | he
  · rw [show (12 - i).toNat = 0 by omega, jFar] at h; omega
  · cases hk : (12 - i).toNat with
    | zero => rw [hk, jFar] at h; omega
    | succ k => rw [hk, jFar, if_neg (by omega)] at h; omega
theorem to_0 {D : RwF} {g i r0 r : Int} (hi : i = 0) (hr : r = r0) : jTo D g (12 - i).toNat r = jTo D g 12 r0 := by
  subst hi; subst hr; rw [show ((12 : Int) - 0).toNat = 12 from rfl]
theorem to_step {D : RwF} {g i i' r r' C : Int} (h : jTo D g (12 - i).toNat r = C) (h0 : 0 ≤ i) (h1 : i < 12) (hr : 0 ≤ r) (hg : r ≠ g) (ei : i' = i + 1) (er : r' = gI D r.toNat) : jTo D g (12 - i').toNat r' = C := by
  rw [show (12 - i).toNat = (12 - i').toNat + 1 by omega, jTo, if_pos hr, if_neg hg] at h
  rw [er]; exact h
theorem to_y' {D : RwF} {g i r C v : Int} (h : jTo D g (12 - i).toNat r = C) (h1 : i < 12) (hr : 0 ≤ r) (hg : r = g) (hv : v = 1) : v = C := by
  rw [show (12 - i).toNat = (11 - i).toNat + 1 by omega, jTo, if_pos hr, if_pos hg] at h; omega
theorem to_n' {D : RwF} {g i r C v : Int} (h : jTo D g (12 - i).toNat r = C) (he : 12 ≤ i ∨ r < 0) (hv : v = 0) : v = C := by
  rcases he with he | he
  · rw [show (12 - i).toNat = 0 by omega, jTo] at h; omega
  · cases hk : (12 - i).toNat with
    | zero => rw [hk, jTo] at h; omega
    | succ k => rw [hk, jTo, if_neg (by omega)] at h; omega
theorem ab_0 {D : RwF} {g i : Int} {m : Int32} (hm : m.toInt = 0) (hi : i = 0) : m = jAb D g i.toNat := by subst hi; exact Int32.toInt_inj.mp (by rw [hm]; rfl)
theorem ofN_r {i : Int32} (h0 : 0 ≤ i.toInt) : Int32.ofNat i.toInt.toNat = i := by
  apply Int32.toInt_inj.mp
  have := i32b i
  rw [Int32.toInt_ofNat_of_lt (by omega)]
  omega
theorem ab_y {D : RwF} {g : Int} {m m' s i i' k : Int32} {t : Int} (h : m = jAb D g i.toInt.toNat) (h0 : 0 ≤ i.toInt) (ht : t = jTo D g 12 i.toInt) (t1 : t ≠ 0) (tb : 0 ≤ t ∧ t ≤ 1) (hk : k.toInt = 1) (hs : s = k <<< (i &&& 31)) (hm : m' = m ||| s) (e : i'.toInt = i.toInt + 1) : m' = jAb D g i'.toInt.toNat := by
  have ek : k = 1 := swe (hk.trans (by decide))
  rw [e, show (i.toInt + 1).toNat = i.toInt.toNat + 1 by omega, jAb, show ((i.toInt.toNat : Nat) : Int) = i.toInt by omega, if_pos (by omega), ← h, ofN_r h0, hm, hs, ek]
theorem ab_n {D : RwF} {g : Int} {m m' i i' : Int32} {t : Int} (h : m = jAb D g i.toInt.toNat) (h0 : 0 ≤ i.toInt) (ht : t = jTo D g 12 i.toInt) (t1 : t = 0) (hm : m' = m) (e : i'.toInt = i.toInt + 1) : m' = jAb D g i'.toInt.toNat := by
  rw [e, show (i.toInt + 1).toNat = i.toInt.toNat + 1 by omega, jAb, show ((i.toInt.toNat : Nat) : Int) = i.toInt by omega, if_neg (by omega), ← h, hm]
theorem mab_n {D : RwF} {g : Int} {m m' i i' k : Int32} {t : Int} (h : m = jAb D g i.toInt.toNat) (h0 : 0 ≤ i.toInt) (ht : t = jTo D g 12 i.toInt) (t1 : t = 0) (hk : k.toInt = 0) (hm : m' = m ||| k) (e : i'.toInt = i.toInt + 1) : m' = jAb D g i'.toInt.toNat := by
  have ek : k = 0 := swe (hk.trans (by decide))
  exact ab_n h h0 ht t1 (by rw [hm, ek]; exact Int32.or_zero) e
theorem cnt_end {D : RwF} {g m i a : Int} (h : m = jCnt D g i.toNat) (e : i = a) : m = jCnt D g a.toNat := by subst e; exact h
theorem abv_y {D : RwF} {g i a : Int} {m : Int32} (h : m = jAb D g i.toNat) (e : i = a) (h0 : 0 ≤ g ∧ g < a) : m.toInt = (jAbove a D g).toInt := by
  subst e
  unfold jAbove
  rw [if_neg (by omega), h]
theorem abv_n {D : RwF} {g a : Int} {m : Int32} (h0 : g < 0 ∨ a ≤ g) (hm : m.toInt = -1) : m.toInt = (jAbove a D g).toInt := by
  unfold jAbove
  rw [if_pos h0]
  exact hm.trans (by decide)
/-! the answers, one by one -/
theorem jr_no {a r w v : Int} {D K Q : RwF} (h : r < 0 ∨ a ≤ r) (hv : v = -1) : v = jReach a D K Q r w := by unfold jReach; rw [if_pos h]; exact hv
theorem jr_q {a r w v i : Int} {D K Q : RwF} (h : 0 ≤ r ∧ r < a) (hw : 10 ≤ w ∧ w ≤ 13) (hv : v = gI Q i.toNat) (hi : i = 4 * r + w - 10) : v = jReach a D K Q r w := by
  unfold jReach; rw [if_neg (by omega), if_pos hw, hv, hi]
theorem jr_0 {a r w v : Int} {D K Q : RwF} (h : 0 ≤ r ∧ r < a) (hw : w = 0) (hv : v = gI D r.toNat) : v = jReach a D K Q r w := by
  unfold jReach; rw [if_neg (by omega), if_neg (by omega), if_pos hw]; exact hv
theorem jr_1 {a r w v : Int} {D K Q : RwF} (h : 0 ≤ r ∧ r < a) (hw : w = 1) (hv : v = gI K r.toNat) : v = jReach a D K Q r w := by
  unfold jReach; rw [if_neg (by omega), if_neg (by omega), if_neg (by omega), if_pos hw]; exact hv
theorem jr_2 {a r w v : Int} {D K Q : RwF} (h : 0 ≤ r ∧ r < a) (hw : w = 2) (hv : v = jCnt D r a.toNat) : v = jReach a D K Q r w := by
  unfold jReach; rw [if_neg (by omega), if_neg (by omega), if_neg (by omega), if_neg (by omega), if_pos hw]; exact hv
theorem jr_3 {a r w v : Int} {D K Q : RwF} (h : 0 ≤ r ∧ r < a) (hw : w = 3) (hv : v = jFar D 12 r) : v = jReach a D K Q r w := by
  unfold jReach; rw [if_neg (by omega), if_neg (by omega), if_neg (by omega), if_neg (by omega), if_neg (by omega), if_pos hw]; exact hv
theorem jr_d {a r w v : Int} {D K Q : RwF} (h : 0 ≤ r ∧ r < a) (hw : w < 0 ∨ (3 < w ∧ w < 10) ∨ 13 < w) (hv : v = -1) : v = jReach a D K Q r w := by
  unfold jReach; rw [if_neg (by omega), if_neg (by omega), if_neg (by omega), if_neg (by omega), if_neg (by omega), if_neg (by omega)]; exact hv
/-- what the class's reading leaves, beside the fault -/
def cRow3 (x : CSt) (a b : Int) (D Q K : RwF) : Prop := x.2.2.2.1 = a ∧ x.2.2.2.2.1 = b ∧ x.2.2.2.2.2.2.1 = D ∧ x.2.2.2.2.2.2.2.1 = Q ∧ x.2.2.2.2.2.2.2.2.1 = K
theorem run_c {T D Q K R S : RwF} {n : Int} : kRun T n R S = kDrop (cRun T n D Q K R S) := by
  unfold kRun cRun
  by_cases h : rsk T n 0 < n
  · rw [if_pos h, if_pos h]; exact (kDrop_all (T := T) (n := n) 401 (x := (rsk T n 0, 0, 0, 0, 0, 0, D, Q, K, R, S))).symm
  · rw [if_neg h, if_neg h]; rfl

/-! the reference's rows: DOWN, from one REACH to the next -/
theorem zD_dn {X : RwF} (h : okR X) (h6 : gI X 6 = -1) : ∀ r : Nat, r < 12 → gI (zD X) r < r := by
  intro r hr
  have h1 := (h.1.1 (6 + 6 * r) (by omega)).2.2.2.2.2.1 (by omega)
  rcases gI_zD (Z := X) (r := r) with ⟨_, e⟩ | ⟨ne, e⟩
  · rw [e]; omega
  · rw [e]
    by_cases h0 : r = 0
    · subst h0; exact absurd h6 ne
    · have e2 : (((6 + 6 * r : Nat) : Int) - 6) / 6 = (r : Int) := by omega
      rw [e2] at h1
      omega
theorem zD_v {X : RwF} {r q x v : Int} (hx : x = gI X (6 + 6 * r + q).toNat) (hq : q = 0) (h0 : 0 ≤ r) (h : (x = -1 ∧ v = -2) ∨ (x ≠ -1 ∧ v = x)) : v = gI (zD X) r.toNat := by
  have e : (6 + 6 * r + q).toNat = 6 + 6 * r.toNat := by omega
  rw [e] at hx
  rcases gI_zD (Z := X) (r := r.toNat) with ⟨e1, e2⟩ | ⟨e1, e2⟩ <;> omega
theorem zD_y {X : RwF} {i v g : Int} (hv : v = gI X (6 + 6 * i + 0).toNat) (h0 : 0 ≤ i) (hg : v = g) (h1 : 0 ≤ g) : gI (zD X) i.toNat = g := by
  have := zD_v (v := g) hv rfl h0 (Or.inr ⟨by omega, hg.symm⟩)
  exact this.symm
theorem zD_n {X : RwF} {i v g : Int} (hv : v = gI X (6 + 6 * i + 0).toNat) (h0 : 0 ≤ i) (hg : v ≠ g) (h1 : 0 ≤ g) : gI (zD X) i.toNat ≠ g := by
  by_cases e : v = -1
  · have := zD_v (v := -2) hv rfl h0 (Or.inl ⟨e, rfl⟩)
    omega
  · have := zD_v (v := v) hv rfl h0 (Or.inr ⟨e, rfl⟩)
    omega
theorem zK_v {X : RwF} {r q v : Int} (hv : v = gI X (6 + 6 * r + q).toNat) (hq : q = 1) (h0 : 0 ≤ r) : v = gI (zK X) r.toNat := by
  rw [hv, show (6 + 6 * r + q).toNat = 6 + 6 * r.toNat + 1 by omega]
  rfl
theorem zQ_v {X : RwF} {r q w v : Int} (hv : v = gI X (6 + 6 * r + q).toNat) (hq : q = 2 + w - 10) (hw : 10 ≤ w ∧ w ≤ 13) (h0 : 0 ≤ r) : v = gI (zQ X) (4 * r + w - 10).toNat := by
  have e : (6 + 6 * r + q).toNat = 6 + 6 * ((4 * r + w - 10).toNat / 4) + 2 + (4 * r + w - 10).toNat % 4 := by omega
  rw [hv, e]
  rfl
theorem jFar_neg {D : RwF} {k : Nat} {r : Int} (h : r < 0) : jFar D k r = 0 := by
  cases k with
  | zero => rfl
  | succ k => rw [jFar, if_neg (by omega)]
theorem jTo_neg {D : RwF} {g : Int} {k : Nat} {r : Int} (h : r < 0) : jTo D g k r = 0 := by
  cases k with
  | zero => rfl
  | succ k => rw [jTo, if_neg (by omega)]
theorem mfar_0 {D : RwF} {m r r0 : Int} (hm : m = 0) (hr : r = r0) : m + jFar D 12 r = jFar D 12 r0 := by subst hr; omega
theorem mfar_step {X : RwF} {m m' r r' C : Int} (hd : ∀ r : Nat, r < 12 → gI (zD X) r < r) (h : m + jFar (zD X) 12 r = C) (hr : 0 ≤ r) (h12 : r < 12) (em : m' = m + 1) (er : r' = gI X (6 + 6 * r + 0).toNat) : m' + jFar (zD X) 12 r' = C := by
  have h2 := hd r.toNat (by omega)
  have e1 : jFar (zD X) 12 r = 1 + jFar (zD X) 11 (gI (zD X) r.toNat) := by
    show jFar (zD X) (11 + 1) r = _
    rw [jFar, if_pos hr]
  have e2 : jFar (zD X) 11 (gI (zD X) r.toNat) = jFar (zD X) 12 (gI (zD X) r.toNat) := jFar_fuel hd 11 12 _ (by omega) (by omega) (by omega)
  have e3 : jFar (zD X) 12 (gI (zD X) r.toNat) = jFar (zD X) 12 r' := by
    by_cases q : r' = -1
    · have := zD_v (v := -2) er rfl hr (Or.inl ⟨q, rfl⟩)
      rw [← this, q, jFar_neg (by omega), jFar_neg (by omega)]
    · have := zD_v (v := r') er rfl hr (Or.inr ⟨q, rfl⟩)
      rw [← this]
  omega
theorem mfar_end {D : RwF} {m r C : Int} (h : m + jFar D 12 r = C) (hr : r < 0) : m = C := by
  rw [jFar_neg hr] at h
  omega
theorem mto_0 {D : RwF} {g r r0 : Int} (hr : r = r0) : jTo D g 12 r = jTo D g 12 r0 := by subst hr; rfl
theorem mto_step {X : RwF} {g r r' C : Int} (hd : ∀ r : Nat, r < 12 → gI (zD X) r < r) (h : jTo (zD X) g 12 r = C) (hr : 0 ≤ r) (h12 : r < 12) (hg : r ≠ g) (er : r' = gI X (6 + 6 * r + 0).toNat) : jTo (zD X) g 12 r' = C := by
  have h2 := hd r.toNat (by omega)
  have e1 : jTo (zD X) g 12 r = jTo (zD X) g 11 (gI (zD X) r.toNat) := by
    show jTo (zD X) g (11 + 1) r = _
    rw [jTo, if_pos hr, if_neg hg]
  have e2 : jTo (zD X) g 11 (gI (zD X) r.toNat) = jTo (zD X) g 12 (gI (zD X) r.toNat) := jTo_fuel hd 11 12 _ (by omega) (by omega) (by omega)
  have e3 : jTo (zD X) g 12 (gI (zD X) r.toNat) = jTo (zD X) g 12 r' := by
    by_cases q : r' = -1
    · have := zD_v (v := -2) er rfl hr (Or.inl ⟨q, rfl⟩)
      rw [← this, q, jTo_neg (by omega), jTo_neg (by omega)]
    · have := zD_v (v := r') er rfl hr (Or.inr ⟨q, rfl⟩)
      rw [← this]
  omega
theorem mto_y {D : RwF} {g r C v : Int} (h : jTo D g 12 r = C) (h0 : 0 ≤ r) (hg : r = g) (hv : v = 1) : v = C := by
  have h2 : jTo D g (11 + 1) r = C := h
  rw [jTo, if_pos h0, if_pos hg] at h2
  omega
theorem mto_n {D : RwF} {g r C v : Int} (h : jTo D g 12 r = C) (hr : r < 0) (hv : v = 0) : v = C := by
  rw [jTo_neg hr] at h
  omega
/-- the class's rows of REACHES say what a row of the reference says -/
def rowT (a : Int) (D K Q Z : RwF) : Prop := gI Z 0 = a ∧ (∀ r : Nat, (r : Int) < a → D r = zD Z r ∧ K r = zK Z r) ∧ ∀ j : Nat, (j : Int) < 4 * a → Q j = zQ Z j
theorem zD_cong {X Z : RwF} {r : Nat} (h : X (6 + 6 * r) = Z (6 + 6 * r)) : zD X r = zD Z r := by
  show (if gI X (6 + 6 * r) = -1 then (-2 : Int32) else X (6 + 6 * r)) = (if gI Z (6 + 6 * r) = -1 then (-2 : Int32) else Z (6 + 6 * r))
  unfold gI
  rw [h]
theorem rowT.sq {a : Int} {D K Q Z X : RwF} (h : rowT a D K Q Z) (hq : sQ Z X) (ha : a ≤ 12) : rowT a D K Q X := by
  obtain ⟨h1, h2, h3⟩ := h
  refine ⟨(congrArg Int32.toInt (hq 0 (by unfold stat; omega))).trans h1, fun r hr => ⟨?_, ?_⟩, fun j hj => ?_⟩
  · rw [(h2 r hr).1]
    exact (zD_cong (hq (6 + 6 * r) (by unfold stat; omega))).symm
  · rw [(h2 r hr).2]
    exact (hq (6 + 6 * r + 1) (by unfold stat; omega)).symm
  · rw [h3 j hj]
    exact (hq (6 + 6 * (j / 4) + 2 + j % 4) (by unfold stat; omega)).symm
theorem rowT.cp {a : Int} {D K Q D2 K2 Q2 Z : RwF} (h : rowT a D K Q Z) (ha : a ≤ 12) (hD : ∀ j : Nat, j < 12 → D2 j = D j) (hK : ∀ j : Nat, j < 12 → K2 j = K j) (hQ : ∀ j : Nat, j < 48 → Q2 j = Q j) : rowT a D2 K2 Q2 Z := by
  obtain ⟨h1, h2, h3⟩ := h
  exact ⟨h1, fun r hr => ⟨(hD r (by omega)).trans (h2 r hr).1, (hK r (by omega)).trans (h2 r hr).2⟩, fun j hj => (hQ j (by omega)).trans (h3 j hj)⟩
theorem rowT.zero {D K Q Z : RwF} (h : gI Z 0 = 0) : rowT 0 D K Q Z := ⟨h, fun r hr => absurd hr (by omega), fun j hj => absurd hj (by omega)⟩
theorem rowT.reach {a r w : Int} {D K Q X : RwF} (h : rowT a D K Q X) (ha : a ≤ 12) (hX : okR X) : jReach a D K Q r w = jReach (gI X 0) (zD X) (zK X) (zQ X) r w := by
  obtain ⟨h1, h2, h3⟩ := h
  rw [h1]
  by_cases h0 : 0 < a
  · have h6 : gI X 6 = -1 := by
      have := okB hX.1
      omega
    refine jReach_congr h2 h3 (fun r hr => ?_)
    have := zD_dn hX h6 r (by omega)
    omega
  · unfold jReach
    rw [if_pos (by omega), if_pos (by omega)]
theorem rowT.above {a g : Int} {D K Q X : RwF} (h : rowT a D K Q X) (ha : a ≤ 12) (hX : okR X) : jAbove a D g = jAbove (gI X 0) (zD X) g := by
  obtain ⟨h1, h2, h3⟩ := h
  rw [h1]
  by_cases h0 : 0 < a
  · have h6 : gI X 6 = -1 := by
      have := okB hX.1
      omega
    refine jAbove_congr (fun r hr => (h2 r hr).1) (fun r hr => ?_)
    have := zD_dn hX h6 r (by omega)
    omega
  · unfold jAbove
    rw [if_pos (by omega), if_pos (by omega)]
/-- what both read of one text -/
theorem sim_row {n a b : Int} {D Q K Z : RwF} {x : CSt} {y : MSt} (h : Sim n x y) (hc : cRow3 x a b D Q K) (hz : y.2.2 = Z) : rowT a D K Q Z := by
  obtain ⟨-, -, -, -, h0, -, -, ha, -, -, hD, hQ, hK, -⟩ := h
  obtain ⟨c1, -, c2, c3, c4⟩ := hc
  subst hz
  rw [c1] at h0
  rw [c2] at hD
  rw [c3] at hQ
  rw [c4] at hK
  refine ⟨h0.symm, fun r hr => ⟨?_, hK r (by omega)⟩, fun j hj => ?_⟩
  · rcases hD r (by omega) with ⟨e1, e2⟩ | ⟨e1, e2, e3⟩
    · show D r = if gI y.2.2 (6 + 6 * r) = -1 then (-2 : Int32) else y.2.2 (6 + 6 * r)
      rw [if_pos (show gI y.2.2 (6 + 6 * r) = -1 from e2)]
      exact swe (e1.trans (by decide))
    · show D r = if gI y.2.2 (6 + 6 * r) = -1 then (-2 : Int32) else y.2.2 (6 + 6 * r)
      rw [if_neg (show ¬ gI y.2.2 (6 + 6 * r) = -1 from fun q => by have : xI y.2.2 (6 + 6 * r) = -1 := q
                                                                    omega)]
      exact e3
  · have := hQ (j / 4) (j % 4) (by omega) (by omega)
    rw [show 4 * (j / 4) + j % 4 = j by omega] at this
    exact this
theorem mtell_s {T : RwF} {n v wr : Int} {X : RwF} {x : MSt} (h : mRes v wr x (mRun T n X)) (e : v = 1) : (mRun T n X).1 = true ∧ (mRun T n X).2.2 = x := by
  rcases h with ⟨_, g1, g2⟩ | ⟨g, _⟩
  · exact ⟨g1, g2⟩
  · omega
theorem told_row {T R0 S0 B0 B2 D D2 Q Q2 K K2 : RwF} {n a b : Int} (hn : 0 ≤ n) (hB : ∀ j : Nat, j < 660 → j ≠ 4 → xI B0 j = 0) (hc : cRow3 (cRun T n D Q K R0 S0) a b D2 Q2 K2) (hm : (mRun T n B0).1 = true ∧ (mRun T n B0).2.2.2.2 = B2) : rowT a D2 K2 Q2 B2 := by
  rcases sim_run (T := T) (D := D) (Q := Q) (K := K) (R := R0) (S := S0) hn hB with ⟨_, hs⟩ | ⟨g, _⟩
  · exact sim_row hs hc hm.2
  · rw [hm.1] at g
    exact absurd g (by decide)
