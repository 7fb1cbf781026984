/-! the reference: one row of 660 numbers, what each place may hold -/
def phi (j x : Int) : Prop :=
  (j = 0 → 0 ≤ x ∧ x ≤ 12) ∧ (j = 1 → 0 ≤ x ∧ x ≤ 14) ∧ (j = 2 → 0 ≤ x ∧ x ≤ 4) ∧ (j = 3 → 0 ≤ x ∧ x ≤ 359) ∧ (j = 5 → 0 ≤ x ∧ x ≤ 30) ∧
  (6 ≤ j ∧ j < 78 ∧ (j - 6) % 6 = 0 → -1 ≤ x ∧ x ≤ 10 ∧ (x < (j - 6) / 6 ∨ x ≤ 0)) ∧
  (78 ≤ j ∧ j < 260 → ((j - 78) % 13 = 0 → 0 ≤ x ∧ x ≤ 11) ∧ ((j - 78) % 13 = 1 → 0 ≤ x ∧ x ≤ 9999) ∧ ((j - 78) % 13 = 5 → -2 ≤ x ∧ x ≤ 999999) ∧ ((j - 78) % 13 = 7 → (-2 ≤ x ∧ x ≤ 11) ∧ x ≠ -1) ∧ ((j - 78) % 13 = 8 → 0 ≤ x ∧ x ≤ 100) ∧ ((j - 78) % 13 = 9 → 0 ≤ x ∧ x ≤ 30) ∧ ((j - 78) % 13 = 10 → 0 ≤ x ∧ x ≤ 9999) ∧ ((j - 78) % 13 = 11 → (-2 ≤ x ∧ x ≤ 3) ∧ x ≠ -1)) ∧
  (260 ≤ j ∧ j < 288 → ((j - 260) % 7 = 0 → 0 ≤ x ∧ x ≤ 11) ∧ ((j - 260) % 7 = 2 → 0 ≤ x ∧ x ≤ 9999) ∧ ((j - 260) % 7 = 5 → (-2 ≤ x ∧ x ≤ 13) ∧ x ≠ -1) ∧ ((j - 260) % 7 = 6 → 0 ≤ x ∧ x ≤ 9999))
theorem phiI {j x : Int} (h0 : j = 0 → 0 ≤ x ∧ x ≤ 12) (h1 : j = 1 → 0 ≤ x ∧ x ≤ 14) (h2 : j = 2 → 0 ≤ x ∧ x ≤ 4) (h3 : j = 3 → 0 ≤ x ∧ x ≤ 359) (h5 : j = 5 → 0 ≤ x ∧ x ≤ 30) (hd : 6 ≤ j ∧ j < 78 ∧ (j - 6) % 6 = 0 → -1 ≤ x ∧ x ≤ 10 ∧ (x < (j - 6) / 6 ∨ x ≤ 0)) (r0 : 78 ≤ j ∧ j < 260 → (j - 78) % 13 = 0 → 0 ≤ x ∧ x ≤ 11) (r1 : 78 ≤ j ∧ j < 260 → (j - 78) % 13 = 1 → 0 ≤ x ∧ x ≤ 9999) (r5 : 78 ≤ j ∧ j < 260 → (j - 78) % 13 = 5 → -2 ≤ x ∧ x ≤ 999999) (r7 : 78 ≤ j ∧ j < 260 → (j - 78) % 13 = 7 → (-2 ≤ x ∧ x ≤ 11) ∧ x ≠ -1) (r8 : 78 ≤ j ∧ j < 260 → (j - 78) % 13 = 8 → 0 ≤ x ∧ x ≤ 100) (r9 : 78 ≤ j ∧ j < 260 → (j - 78) % 13 = 9 → 0 ≤ x ∧ x ≤ 30) (r10 : 78 ≤ j ∧ j < 260 → (j - 78) % 13 = 10 → 0 ≤ x ∧ x ≤ 9999) (r11 : 78 ≤ j ∧ j < 260 → (j - 78) % 13 = 11 → (-2 ≤ x ∧ x ≤ 3) ∧ x ≠ -1) (s0 : 260 ≤ j ∧ j < 288 → (j - 260) % 7 = 0 → 0 ≤ x ∧ x ≤ 11) (s2 : 260 ≤ j ∧ j < 288 → (j - 260) % 7 = 2 → 0 ≤ x ∧ x ≤ 9999) (s5 : 260 ≤ j ∧ j < 288 → (j - 260) % 7 = 5 → (-2 ≤ x ∧ x ≤ 13) ∧ x ≠ -1) (s6 : 260 ≤ j ∧ j < 288 → (j - 260) % 7 = 6 → 0 ≤ x ∧ x ≤ 9999) : phi j x :=
  ⟨h0, h1, h2, h3, h5, hd, fun h => ⟨r0 h, r1 h, r5 h, r7 h, r8 h, r9 h, r10 h, r11 h⟩, fun h => ⟨s0 h, s2 h, s5 h, s6 h⟩⟩
theorem phi_0 {j x : Int} (h : phi j x) (hj : j = 0) : 0 ≤ x ∧ x ≤ 12 := h.1 hj
theorem phi_1 {j x : Int} (h : phi j x) (hj : j = 1) : 0 ≤ x ∧ x ≤ 14 := h.2.1 hj
theorem phi_2 {j x : Int} (h : phi j x) (hj : j = 2) : 0 ≤ x ∧ x ≤ 4 := h.2.2.1 hj
theorem phi_3 {j x : Int} (h : phi j x) (hj : j = 3) : 0 ≤ x ∧ x ≤ 359 := h.2.2.2.1 hj
theorem phi_5 {j x : Int} (h : phi j x) (hj : j = 5) : 0 ≤ x ∧ x ≤ 30 := h.2.2.2.2.1 hj
theorem phi_d {j x : Int} (h : phi j x) (hj : 6 ≤ j ∧ j < 78 ∧ (j - 6) % 6 = 0) : -1 ≤ x ∧ x ≤ 10 ∧ (x < (j - 6) / 6 ∨ x ≤ 0) := h.2.2.2.2.2.1 hj
theorem phi_r0 {j x : Int} (h : phi j x) (hj : 78 ≤ j ∧ j < 260) (hw : (j - 78) % 13 = 0) : 0 ≤ x ∧ x ≤ 11 := (h.2.2.2.2.2.2.1 hj).1 hw
theorem phi_r1 {j x : Int} (h : phi j x) (hj : 78 ≤ j ∧ j < 260) (hw : (j - 78) % 13 = 1) : 0 ≤ x ∧ x ≤ 9999 := (h.2.2.2.2.2.2.1 hj).2.1 hw
theorem phi_r5 {j x : Int} (h : phi j x) (hj : 78 ≤ j ∧ j < 260) (hw : (j - 78) % 13 = 5) : -2 ≤ x ∧ x ≤ 999999 := (h.2.2.2.2.2.2.1 hj).2.2.1 hw
theorem phi_r7 {j x : Int} (h : phi j x) (hj : 78 ≤ j ∧ j < 260) (hw : (j - 78) % 13 = 7) : (-2 ≤ x ∧ x ≤ 11) ∧ x ≠ -1 := (h.2.2.2.2.2.2.1 hj).2.2.2.1 hw
theorem phi_r8 {j x : Int} (h : phi j x) (hj : 78 ≤ j ∧ j < 260) (hw : (j - 78) % 13 = 8) : 0 ≤ x ∧ x ≤ 100 := (h.2.2.2.2.2.2.1 hj).2.2.2.2.1 hw
theorem phi_r9 {j x : Int} (h : phi j x) (hj : 78 ≤ j ∧ j < 260) (hw : (j - 78) % 13 = 9) : 0 ≤ x ∧ x ≤ 30 := (h.2.2.2.2.2.2.1 hj).2.2.2.2.2.1 hw
theorem phi_r10 {j x : Int} (h : phi j x) (hj : 78 ≤ j ∧ j < 260) (hw : (j - 78) % 13 = 10) : 0 ≤ x ∧ x ≤ 9999 := (h.2.2.2.2.2.2.1 hj).2.2.2.2.2.2.1 hw
theorem phi_r11 {j x : Int} (h : phi j x) (hj : 78 ≤ j ∧ j < 260) (hw : (j - 78) % 13 = 11) : (-2 ≤ x ∧ x ≤ 3) ∧ x ≠ -1 := (h.2.2.2.2.2.2.1 hj).2.2.2.2.2.2.2 hw
theorem phi_s0 {j x : Int} (h : phi j x) (hj : 260 ≤ j ∧ j < 288) (hw : (j - 260) % 7 = 0) : 0 ≤ x ∧ x ≤ 11 := (h.2.2.2.2.2.2.2 hj).1 hw
theorem phi_s2 {j x : Int} (h : phi j x) (hj : 260 ≤ j ∧ j < 288) (hw : (j - 260) % 7 = 2) : 0 ≤ x ∧ x ≤ 9999 := (h.2.2.2.2.2.2.2 hj).2.1 hw
theorem phi_s5 {j x : Int} (h : phi j x) (hj : 260 ≤ j ∧ j < 288) (hw : (j - 260) % 7 = 5) : (-2 ≤ x ∧ x ≤ 13) ∧ x ≠ -1 := (h.2.2.2.2.2.2.2 hj).2.2.1 hw
theorem phi_s6 {j x : Int} (h : phi j x) (hj : 260 ≤ j ∧ j < 288) (hw : (j - 260) % 7 = 6) : 0 ≤ x ∧ x ≤ 9999 := (h.2.2.2.2.2.2.2 hj).2.2.2 hw
def okC (F : Nat → Int32) : Prop := gI F 6 = -1 ∨ (gI F 0 = 0 ∧ gI F 1 = 0 ∧ gI F 2 = 0)
def okA (F : Nat → Int32) : Prop := (∀ j : Nat, j < 660 → phi (j : Int) (gI F j)) ∧ okC F
/-- what is left of a VOLUME: those ahead of k have had this DAY's take -/
def okL (k : Int) (F : Nat → Int32) : Prop := ∀ t : Nat, t < 14 → ((t : Int) < gI F 1 → ((t : Int) < k → -2 - 40000 * (gI F 3 + 1) ≤ gI F (84 + 13 * t)) ∧ (k ≤ (t : Int) → -2 - 40000 * gI F 3 ≤ gI F (84 + 13 * t))) ∧ (gI F 1 ≤ (t : Int) → -2 ≤ gI F (84 + 13 * t))
def okR (F : Nat → Int32) : Prop := okA F ∧ okL 0 F
theorem okA.at {F : Nat → Int32} {i : Int32} (h : okA F) (h0 : 0 ≤ i.toInt ∧ i.toInt < 660) : phi i.toInt (gI F i.toNatClampNeg) := by
  have e : i.toNatClampNeg = i.toInt.toNat := rfl
  have := h.1 i.toNatClampNeg (by omega)
  rw [e] at this ⊢
  rw [show ((i.toInt.toNat : Nat) : Int) = i.toInt by omega] at this
  exact this
theorem okB {F : Nat → Int32} (h : okA F) : ((0 ≤ gI F 0 ∧ gI F 0 ≤ 12) ∧ (0 ≤ gI F 1 ∧ gI F 1 ≤ 14) ∧ (0 ≤ gI F 2 ∧ gI F 2 ≤ 4) ∧ (0 ≤ gI F 3 ∧ gI F 3 ≤ 359) ∧ (0 ≤ gI F 5 ∧ gI F 5 ≤ 30)) ∧ (gI F 6 = -1 ∨ (gI F 0 = 0 ∧ gI F 1 = 0 ∧ gI F 2 = 0)) := by
  have h0 := h.1 0 (by omega)
  have h1 := h.1 1 (by omega)
  have h2 := h.1 2 (by omega)
  have h3 := h.1 3 (by omega)
  have h5 := h.1 5 (by omega)
  exact ⟨⟨h0.1 rfl, h1.2.1 rfl, h2.2.2.1 rfl, h3.2.2.2.1 rfl, h5.2.2.2.2.1 rfl⟩, h.2⟩
theorem gI_upd {F N : Nat → Int32} {i x : Int32} (e : N = upd F i.toNatClampNeg x) (j : Nat) : gI N j = if j = i.toNatClampNeg then x.toInt else gI F j := by
  subst e
  unfold gI upd
  by_cases h : j = i.toNatClampNeg
  · simp [h]
  · simp [h]
theorem gI_ne {F N : Nat → Int32} {i x : Int32} (e : N = upd F i.toNatClampNeg x) {j : Nat} (h : (j : Int) ≠ i.toInt) (h0 : 0 ≤ i.toInt) : gI N j = gI F j := by
  rw [gI_upd e, if_neg]
  have e : i.toNatClampNeg = i.toInt.toNat := rfl
  omega
theorem gI_eq {F N : Nat → Int32} {i x : Int32} (e : N = upd F i.toNatClampNeg x) {j : Nat} (h : (j : Int) = i.toInt) : gI N j = x.toInt := by
  rw [gI_upd e, if_pos]
  have e : i.toNatClampNeg = i.toInt.toNat := rfl
  omega
/-- a place that none of the counts is, nor the first REACH's DOWN -/
theorem okA.st {F N : Nat → Int32} {i x : Int32} (h : okA F) (e : N = upd F i.toNatClampNeg x) (h0 : 0 ≤ i.toInt ∧ i.toInt < 660) (h1 : i.toInt ≠ 0 ∧ i.toInt ≠ 1 ∧ i.toInt ≠ 2 ∧ i.toInt ≠ 6) (hp : phi i.toInt x.toInt) : okA N := by
  refine ⟨fun j hj => ?_, ?_⟩
  · by_cases hq : (j : Int) = i.toInt
    · rw [gI_eq e hq, hq]; exact hp
    · rw [gI_ne e hq h0.1]; exact h.1 j hj
  · unfold okC
    rw [gI_ne e (j := 6) (by omega) h0.1, gI_ne e (j := 0) (by omega) h0.1, gI_ne e (j := 1) (by omega) h0.1, gI_ne e (j := 2) (by omega) h0.1]
    exact h.2
/-- .. nor what is left of a VOLUME, nor the DAY -/
theorem okL.st {F N : Nat → Int32} {i x : Int32} {k : Int} (h : okL k F) (e : N = upd F i.toNatClampNeg x) (h0 : 0 ≤ i.toInt ∧ i.toInt < 660) (h1 : i.toInt ≠ 1 ∧ i.toInt ≠ 3) (h2 : i.toInt < 78 ∨ 260 ≤ i.toInt ∨ (i.toInt - 78) % 13 ≠ 6) : okL k N := by
  intro t ht
  rw [gI_ne e (j := 1) (by omega) h0.1, gI_ne e (j := 3) (by omega) h0.1, gI_ne e (j := 84 + 13 * t) (by omega) h0.1]
  exact h t ht
theorem okL.mono {F : Nat → Int32} {k k' : Int} (h : okL k F) (hk : k ≤ k') : okL k' F := by
  intro t ht
  have := h t ht
  omega
theorem okL.cast {F : Nat → Int32} {k k' : Int} (h : okL k F) (hk : k = k') : okL k' F := hk ▸ h
/-- this DAY's take of the RIGHT t -/
theorem okL.take {F N : Nat → Int32} {i x : Int32} {k : Int} (h : okL k F) (e : N = upd F i.toNatClampNeg x) (hk : 0 ≤ k ∧ k < 14) (hi : i.toInt = 84 + 13 * k) (hx : gI F i.toNatClampNeg - 29997 ≤ x.toInt) (hF : k < gI F 1) : okL (k + 1) N := by
  intro t ht
  have h0 := h t ht
  rw [gI_ne e (j := 1) (by omega) (by omega), gI_ne e (j := 3) (by omega) (by omega)]
  by_cases q : (t : Int) = k
  · have e1 : i.toNatClampNeg = 84 + 13 * t := by
      show i.toInt.toNat = _
      omega
    rw [gI_eq e (j := 84 + 13 * t) (by omega)]
    rw [e1] at hx
    omega
  · rw [gI_ne e (j := 84 + 13 * t) (by omega) (by omega)]
    omega
/-- the next DAY -/
theorem okL.day {F N : Nat → Int32} {i x : Int32} (h : okL 14 F) (e : N = upd F i.toNatClampNeg x) (hi : i.toInt = 3) (hx : x.toInt = gI F 3 + 1) : okL 0 N := by
  intro t ht
  have h0 := h t ht
  rw [gI_ne e (j := 1) (by omega) (by omega), gI_eq e (j := 3) (by omega), gI_ne e (j := 84 + 13 * t) (by omega) (by omega), hx]
  omega
theorem okR.st {F N : Nat → Int32} {i x : Int32} (h : okR F) (e : N = upd F i.toNatClampNeg x) (h0 : 0 ≤ i.toInt ∧ i.toInt < 660) (h1 : i.toInt ≠ 0 ∧ i.toInt ≠ 1 ∧ i.toInt ≠ 2 ∧ i.toInt ≠ 6 ∧ i.toInt ≠ 3) (h2 : i.toInt < 78 ∨ 260 ≤ i.toInt ∨ (i.toInt - 78) % 13 ≠ 6) (hp : phi i.toInt x.toInt) : okR N :=
  ⟨h.1.st e h0 ⟨h1.1, h1.2.1, h1.2.2.1, h1.2.2.2.1⟩ hp, h.2.st e h0 ⟨h1.2.1, h1.2.2.2.2⟩ h2⟩
theorem okR_congr {F N : Nat → Int32} (h : okR F) (e : ∀ j : Nat, j < 660 → N j = F j) : okR N := by
  have g : ∀ j : Nat, j < 660 → gI N j = gI F j := fun j hj => by unfold gI; rw [e j hj]
  refine ⟨⟨fun j hj => by rw [g j hj]; exact h.1.1 j hj, ?_⟩, fun t ht => ?_⟩
  · unfold okC
    rw [g 6 (by omega), g 0 (by omega), g 1 (by omega), g 2 (by omega)]
    exact h.1.2
  · rw [g 1 (by omega), g 3 (by omega), g (84 + 13 * t) (by omega)]
    exact h.2 t ht
/-- any place but the counts, the DAY, what is left; the first REACH's DOWN is -1 -/
theorem okR.stM {F N : Nat → Int32} {i x : Int32} (h : okR F) (e : N = upd F i.toNatClampNeg x) (h0 : 0 ≤ i.toInt ∧ i.toInt < 660) (h1 : i.toInt ≠ 0 ∧ i.toInt ≠ 1 ∧ i.toInt ≠ 2 ∧ i.toInt ≠ 3) (h2 : i.toInt < 78 ∨ 260 ≤ i.toInt ∨ (i.toInt - 78) % 13 ≠ 6) (hp : phi i.toInt x.toInt) (hx : i.toInt = 6 → x.toInt = -1) : okR N := by
  refine ⟨⟨fun j hj => ?_, ?_⟩, h.2.st e h0 ⟨h1.2.1, h1.2.2.2⟩ h2⟩
  · by_cases hq : (j : Int) = i.toInt
    · rw [gI_eq e hq, hq]; exact hp
    · rw [gI_ne e hq h0.1]; exact h.1.1 j hj
  · unfold okC
    rw [gI_ne e (j := 0) (by omega) h0.1, gI_ne e (j := 1) (by omega) h0.1, gI_ne e (j := 2) (by omega) h0.1]
    by_cases q : i.toInt = 6
    · rw [gI_eq e (j := 6) (by omega)]
      exact Or.inl (hx q)
    · rw [gI_ne e (j := 6) (by omega) h0.1]
      exact h.1.2
theorem dn6 {F N : Nat → Int32} {i x : Int32} (h : okR F) (e : N = upd F i.toNatClampNeg x) (hi : i.toInt = 6 + 6 * gI F 0) (hx : x.toInt = -1) : gI N 6 = -1 := by
  have hb := okB h.1
  by_cases q : i.toInt = 6
  · rw [gI_eq e (j := 6) (by omega)]; exact hx
  · rw [gI_ne e (j := 6) (by omega) (by omega)]; omega
/-- one REACH, RIGHT, STORE more -/
theorem okR.inc {F N : Nat → Int32} {i x : Int32} (h : okR F) (e : N = upd F i.toNatClampNeg x) (hi : (i.toInt = 0 ∧ gI F 0 < 12 ∧ x.toInt = gI F 0 + 1) ∨ (i.toInt = 1 ∧ gI F 1 < 14 ∧ x.toInt = gI F 1 + 1) ∨ (i.toInt = 2 ∧ gI F 2 < 4 ∧ x.toInt = gI F 2 + 1)) (h6 : gI F 6 = -1) : okR N := by
  have hb := okB h.1
  refine ⟨⟨fun j hj => ?_, ?_⟩, fun t ht => ?_⟩
  · by_cases hq : (j : Int) = i.toInt
    · rw [gI_eq e hq, hq]
      exact (phiI (by omega) (by omega) (by omega) (by omega) (by omega) (by omega) (by omega) (by omega) (by omega) (by omega) (by omega) (by omega) (by omega) (by omega) (by omega) (by omega) (by omega) (by omega))
    · rw [gI_ne e hq (by omega)]; exact h.1.1 j hj
  · unfold okC
    rw [gI_ne e (j := 6) (by omega) (by omega)]
    exact Or.inl h6
  · have hL := h.2 t ht
    rw [gI_ne e (j := 3) (by omega) (by omega), gI_ne e (j := 84 + 13 * t) (by omega) (by omega)]
    by_cases q : i.toInt = 1
    · rw [gI_eq e (j := 1) (by omega)]
      omega
    · rw [gI_ne e (j := 1) (by omega) (by omega)]
      exact hL
/-- what is left of the VOLUME of a RIGHT that isn't there yet -/
theorem okR.stL {F N : Nat → Int32} {i x : Int32} (h : okR F) (e : N = upd F i.toNatClampNeg x) (hk : gI F 1 < 14) (hi : i.toInt = 84 + 13 * gI F 1) (hx : -2 ≤ x.toInt) : okR N := by
  have hb := okB h.1
  refine ⟨h.1.st e (by omega) (by omega) (phiI (by omega) (by omega) (by omega) (by omega) (by omega) (by omega) (by omega) (by omega) (by omega) (by omega) (by omega) (by omega) (by omega) (by omega) (by omega) (by omega) (by omega) (by omega)), fun t ht => ?_⟩
  have hL := h.2 t ht
  rw [gI_ne e (j := 3) (by omega) (by omega), gI_ne e (j := 1) (by omega) (by omega)]
  by_cases q : (t : Int) = gI F 1
  · rw [gI_eq e (j := 84 + 13 * t) (by omega)]
    omega
  · rw [gI_ne e (j := 84 + 13 * t) (by omega) (by omega)]
    exact hL
def zf (F : Nat → Int32) (k : Int) : Prop := ∀ j : Nat, (j : Int) < k → F j = 0
theorem zf.zero {F : Nat → Int32} {k : Int} (hk : k = 0) : zf F k := fun j hj => absurd hj (by omega)
theorem zf.step {F N : Nat → Int32} {k k' : Int} {i x : Int32} (h : zf F k) (e : N = upd F i.toNatClampNeg x) (hi : i.toInt = k) (hx : x.toInt = 0) (hk : k' = k + 1) (h0 : 0 ≤ k) : zf N k' := by
  subst hk e
  intro j hj
  have e1 : i.toNatClampNeg = i.toInt.toNat := rfl
  by_cases q : j = i.toNatClampNeg
  · rw [show upd F i.toNatClampNeg x j = x from by simp [upd, q]]
    exact swe (hx.trans (by decide))
  · rw [show upd F i.toNatClampNeg x j = F j from by simp [upd, q]]
    exact h j (by omega)
theorem zf.all {F : Nat → Int32} {k : Int} (h : zf F k) (hk : k = 660) : ∀ j : Nat, j < 660 → gI F j = 0 := fun j hj => by unfold gI; rw [h j (by omega)]; decide
theorem zf.ok {F : Nat → Int32} {k : Int} (h : zf F k) (hk : k = 660) : okR F := by
  subst hk
  have g : ∀ j : Nat, j < 660 → gI F j = 0 := fun j hj => by unfold gI; rw [h j (by omega)]; decide
  refine ⟨⟨fun j hj => ?_, Or.inr ⟨g 0 (by omega), g 1 (by omega), g 2 (by omega)⟩⟩, fun t ht => ?_⟩
  · rw [g j hj]
    exact (phiI (by omega) (by omega) (by omega) (by omega) (by omega) (by omega) (by omega) (by omega) (by omega) (by omega) (by omega) (by omega) (by omega) (by omega) (by omega) (by omega) (by omega) (by omega))
  · rw [g 1 (by omega), g 3 (by omega), g (84 + 13 * t) (by omega)]
    omega
/-- a new YEAR: those ahead of k have their VOLUME again -/
def okZ (k : Int) (F : Nat → Int32) : Prop := gI F 3 = 0 ∧ ∀ t : Nat, t < 14 → (t : Int) < k ∨ gI F 1 ≤ (t : Int) → -2 ≤ gI F (84 + 13 * t)
theorem okZ.end {F : Nat → Int32} {k : Int} (h : okZ k F) (hk : gI F 1 ≤ k) : okL 0 F := by
  intro t ht
  have h1 := h.1
  have h2 := h.2 t ht
  omega
theorem okZ.put {F N : Nat → Int32} {i x : Int32} {k : Int} (h : okZ k F) (e : N = upd F i.toNatClampNeg x) (hk : 0 ≤ k ∧ k < 14) (hi : i.toInt = 84 + 13 * k) (hx : -2 ≤ x.toInt) {k' : Int} (hk' : k' = k + 1) : okZ k' N := by
  subst hk'
  refine ⟨by rw [gI_ne e (j := 3) (by omega) (by omega)]; exact h.1, fun t ht hq => ?_⟩
  rw [gI_ne e (j := 1) (by omega) (by omega)] at hq
  by_cases q : (t : Int) = k
  · rw [gI_eq e (j := 84 + 13 * t) (by omega)]
    exact hx
  · rw [gI_ne e (j := 84 + 13 * t) (by omega) (by omega)]
    exact h.2 t ht (by omega)
theorem okZ.cast {F : Nat → Int32} {k k' : Int} (h : okZ k F) (hk : k = k') : okZ k' F := hk ▸ h
/-- the DAY 360 for a moment -/
def okY (F : Nat → Int32) : Prop := (∀ j : Nat, j < 660 → j ≠ 3 → phi (j : Int) (gI F j)) ∧ okC F ∧ ∀ t : Nat, t < 14 → gI F 1 ≤ (t : Int) → -2 ≤ gI F (84 + 13 * t)
theorem okY.of {F N : Nat → Int32} {i x : Int32} (h : okA F) (hL : okL 14 F) (e : N = upd F i.toNatClampNeg x) (hi : i.toInt = 3) : okY N := by
  refine ⟨fun j hj hne => by rw [gI_ne e (j := j) (by omega) (by omega)]; exact h.1 j hj, ?_, fun t ht hq => ?_⟩
  · unfold okC
    rw [gI_ne e (j := 6) (by omega) (by omega), gI_ne e (j := 0) (by omega) (by omega), gI_ne e (j := 1) (by omega) (by omega), gI_ne e (j := 2) (by omega) (by omega)]
    exact h.2
  · rw [gI_ne e (j := 1) (by omega) (by omega)] at hq
    rw [gI_ne e (j := 84 + 13 * t) (by omega) (by omega)]
    exact (hL t ht).2 hq
theorem okY.zero {F N : Nat → Int32} {i x : Int32} (h : okY F) (e : N = upd F i.toNatClampNeg x) (hi : i.toInt = 3) (hx : x.toInt = 0) : okA N ∧ okZ 0 N := by
  refine ⟨⟨fun j hj => ?_, ?_⟩, by rw [gI_eq e (j := 3) (by omega)]; exact hx, fun t ht hq => ?_⟩
  · by_cases q : j = 3
    · subst q
      rw [gI_eq e (j := 3) (by omega), hx]
      exact (phiI (by omega) (by omega) (by omega) (by omega) (by omega) (by omega) (by omega) (by omega) (by omega) (by omega) (by omega) (by omega) (by omega) (by omega) (by omega) (by omega) (by omega) (by omega))
    · rw [gI_ne e (j := j) (by omega) (by omega)]
      exact h.1 j hj q
  · unfold okC
    rw [gI_ne e (j := 6) (by omega) (by omega), gI_ne e (j := 0) (by omega) (by omega), gI_ne e (j := 1) (by omega) (by omega), gI_ne e (j := 2) (by omega) (by omega)]
    exact h.2.1
  · rw [gI_ne e (j := 1) (by omega) (by omega)] at hq
    rw [gI_ne e (j := 84 + 13 * t) (by omega) (by omega)]
    exact h.2.2 t ht (by omega)
/-- rows behind one another -/
def okN (n : Nat) (F : Nat → Int32) : Prop := ∀ r : Nat, r < n → okR (fun j => F (660 * r + j))
/-- k places from b on of one row stand in another from a on; all else there is as it was -/
def cp (D0 D S : Nat → Int32) (a b k : Int) : Prop := ∀ j : Nat, (a ≤ (j : Int) ∧ (j : Int) < a + k → D j = S ((j : Int) - a + b).toNat) ∧ ((j : Int) < a ∨ a + k ≤ (j : Int) → D j = D0 j)
theorem cp.zero {D S : Nat → Int32} {a b k : Int} (hk : k = 0) : cp D D S a b k := fun j => ⟨fun h => absurd h (by omega), fun _ => rfl⟩
theorem cp.step {D0 D N S : Nat → Int32} {a b k k' : Int} {i i2 x : Int32} (h : cp D0 D S a b k) (e : N = upd D i.toNatClampNeg x) (ex : x = S i2.toNatClampNeg) (hi : i.toInt = a + k) (hi2 : i2.toInt = b + k) (h0 : 0 ≤ a ∧ 0 ≤ b ∧ 0 ≤ k) (hk : k' = k + 1) : cp D0 N S a b k' := by
  subst hk
  have e1 : i.toNatClampNeg = i.toInt.toNat := rfl
  have e2 : i2.toNatClampNeg = i2.toInt.toNat := rfl
  intro j
  have hj := h j
  subst e
  by_cases q : j = i.toNatClampNeg
  · refine ⟨fun _ => ?_, fun hq => absurd hq (by omega)⟩
    rw [show upd D i.toNatClampNeg x j = x from by simp [upd, q], ex, e2]
    congr 1 <;> omega
  · have e3 : upd D i.toNatClampNeg x j = D j := by simp [upd, q]
    rw [e3]
    exact ⟨fun hq => hj.1 (by omega), fun hq => hj.2 (by omega)⟩
theorem okR.cp0 {D0 D S : Nat → Int32} {b k : Int} (h : okR (fun j => S (b.toNat + j))) (hc : cp D0 D S 0 b k) (hk : k = 660) (hb : 0 ≤ b) : okR D := by
  subst hk
  refine okR_congr h (fun j hj => ?_)
  rw [(hc j).1 (by omega)]
  congr 1 <;> omega
theorem cp_gI {D0 D S : Nat → Int32} {k : Int} {j : Nat} (hc : cp D0 D S 0 0 k) (hk : k = 660) (hj : j < 660) : gI D j = gI S j := by
  subst hk
  unfold gI
  rw [(hc j).1 (by omega)]
  congr 2
theorem okR.cpA {D0 D S : Nat → Int32} {k : Int} (h : okR S) (hc : cp D0 D S 0 0 k) (hk : k = 660) : okR D := by
  subst hk
  refine okR_congr h (fun j hj => ?_)
  rw [(hc j).1 (by omega)]
  congr 1 <;> omega
theorem okN.row {n r : Nat} {F : Nat → Int32} {b : Int} (h : okN n F) (hr : r < n) (hb : b = 660 * (r : Int)) : okR (fun j => F (b.toNat + j)) := by
  have e : b.toNat = 660 * r := by omega
  rw [e]
  exact h r hr
theorem okN.cp {n u : Nat} {D0 D S : Nat → Int32} {a k : Int} (h : okN n D0) (hs : okR S) (hc : cp D0 D S a 0 k) (hk : k = 660) (ha : a = 660 * (u : Int)) : okN n D := by
  subst hk ha
  intro r hr
  by_cases q : r = u
  · subst q
    refine okR_congr hs (fun j hj => ?_)
    show D (660 * r + j) = S j
    rw [(hc (660 * r + j)).1 (by omega)]
    congr 1 <;> omega
  · refine okR_congr (h r hr) (fun j hj => ?_)
    show D (660 * r + j) = D0 (660 * r + j)
    exact (hc (660 * r + j)).2 (by omega)
/-- all rows one place ahead -/
def sh (D0 D : Nat → Int32) (k : Int) : Prop := ∀ j : Nat, ((j : Int) < k - 660 → D j = D0 (j + 660)) ∧ (k - 660 ≤ (j : Int) → D j = D0 j)
theorem sh.zero {D : Nat → Int32} {k : Int} (hk : k = 660) : sh D D k := fun j => ⟨fun h => absurd h (by omega), fun _ => rfl⟩
theorem sh.step {D0 D N : Nat → Int32} {k k' : Int} {i i2 x : Int32} (h : sh D0 D k) (e : N = upd D i.toNatClampNeg x) (ex : x = D i2.toNatClampNeg) (hi : i.toInt = k - 660) (hi2 : i2.toInt = k) (h0 : 660 ≤ k) (hk : k' = k + 1) : sh D0 N k' := by
  subst hk
  have e1 : i.toNatClampNeg = i.toInt.toNat := rfl
  have e2 : i2.toNatClampNeg = i2.toInt.toNat := rfl
  intro j
  have hj := h j
  subst e
  by_cases q : j = i.toNatClampNeg
  · refine ⟨fun _ => ?_, fun hq => absurd hq (by omega)⟩
    rw [show upd D i.toNatClampNeg x j = x from by simp [upd, q], ex, (h i2.toNatClampNeg).2 (by omega)]
    congr 1 <;> omega
  · have e3 : upd D i.toNatClampNeg x j = D j := by simp [upd, q]
    rw [e3]
    exact ⟨fun hq => hj.1 (by omega), fun hq => hj.2 (by omega)⟩
theorem okN.sh {D0 D : Nat → Int32} {k : Int} (h : okN 10 D0) (hs : sh D0 D k) (hk : k = 6600) : okN 10 D := by
  subst hk
  intro r hr
  by_cases q : r < 9
  · refine okR_congr (h (r + 1) (by omega)) (fun j hj => ?_)
    show D (660 * r + j) = D0 (660 * (r + 1) + j)
    rw [(hs (660 * r + j)).1 (by omega)]
    congr 1 <;> omega
  · refine okR_congr (h r hr) (fun j hj => ?_)
    show D (660 * r + j) = D0 (660 * r + j)
    exact (hs (660 * r + j)).2 (by omega)

theorem and256 : ∀ k : Fin 256, (Int32.ofInt ((k.val : Int) - 128) &&& 255).toInt = if (k.val : Int) < 128 then (k.val : Int) + 128 else (k.val : Int) - 128 := by decide +kernel
theorem and255 {z k v : Int32} (hv : v = z &&& k) (hk : k.toInt = 255) (hz : -128 ≤ z.toInt ∧ z.toInt ≤ 127) : (0 ≤ z.toInt ∧ v.toInt = z.toInt) ∨ (z.toInt < 0 ∧ v.toInt = z.toInt + 256) := by
  have e1 : k = 255 := swe (hk.trans (by decide))
  have e2 : z = Int32.ofInt ((((z.toInt + 128).toNat : Nat) : Int) - 128) := by
    rw [show (((z.toInt + 128).toNat : Nat) : Int) - 128 = z.toInt by omega]; exact (Int32.ofInt_toInt z).symm
  have h := and256 ⟨(z.toInt + 128).toNat, by omega⟩
  simp only at h
  rw [← e2] at h
  subst e1; subst hv
  rw [h]
  split <;> omega
theorem gI_at {X : Nat → Int32} {i v : Int32} {k : Nat} (e : v = X i.toNatClampNeg) (h : i.toInt.toNat = k) : v.toInt = gI X k := by
  subst h; subst e; rfl
/-! what was told of a river: the places that no ACT changes -/
abbrev stat (j : Nat) : Prop := j = 0 ∨ j = 1 ∨ (6 ≤ j ∧ j < 78)
def sQ (Z F : Nat → Int32) : Prop := ∀ j : Nat, stat j → F j = Z j
theorem sQ.st {Z F N : Nat → Int32} {i x : Int32} (h : sQ Z F) (e : N = upd F i.toNatClampNeg x) (hi : 2 ≤ i.toInt ∧ (i.toInt < 6 ∨ 78 ≤ i.toInt)) : sQ Z N := by
  intro j hj
  subst e
  have e1 : i.toNatClampNeg = i.toInt.toNat := rfl
  unfold upd
  rw [if_neg (by unfold stat at hj; omega)]
  exact h j hj
theorem sQ_cp {Z D0 D S : Nat → Int32} {k : Int} (h : sQ Z S) (hc : cp D0 D S 0 0 k) (hk : k = 660) : sQ Z D := by
  intro j hj
  subst hk
  rw [(hc j).1 (by unfold stat at hj; omega), show ((j : Int) - 0 + 0).toNat = j by omega]
  exact h j hj
/-- the rows that undo can bring back -/
def okM (Z : Nat → Int32) (u : Int) (W : Nat → Int32) : Prop := ∀ r : Nat, (r : Int) < u → sQ Z (fun j => W (660 * r + j))
theorem okM.mono {Z W : Nat → Int32} {u v : Int} (h : okM Z u W) (e : v ≤ u) : okM Z v W := fun r hr => h r (by omega)
theorem okM_sh {Z D0 D : Nat → Int32} {k u v : Int} (h : okM Z u D0) (hs : sh D0 D k) (hk : k = 6600) (hu : u ≤ 10) (e : v = u - 1) : okM Z v D := by
  intro r hr j hj
  have h1 := (hs (660 * r + j)).1 (by unfold stat at hj; omega)
  show D (660 * r + j) = Z j
  rw [h1, show 660 * r + j + 660 = 660 * (r + 1) + j by omega]
  exact h (r + 1) (by omega) j hj
theorem okM_cp {Z D0 D X : Nat → Int32} {g k a u2 : Int} (h : okM Z g D0) (hq : sQ Z X) (hc : cp D0 D X a 0 k) (ha : a = 660 * g) (hk : k = 660) (h0 : 0 ≤ g) (e : u2 = g + 1) : okM Z u2 D := by
  intro r hr j hj
  show D (660 * r + j) = Z j
  by_cases q : (r : Int) = g
  · rw [(hc (660 * r + j)).1 (by unfold stat at hj; omega), show (((660 * r + j : Nat) : Int) - a + 0).toNat = j by omega]
    exact hq j hj
  · rw [(hc (660 * r + j)).2 (by unfold stat at hj; omega)]
    exact h r (by omega) j hj
theorem sQ_row {Z D0 D W : Nat → Int32} {u g b k : Int} (h : okM Z u W) (hc : cp D0 D W 0 b k) (hb : b = 660 * g) (hg : 0 ≤ g ∧ g < u) (hk : k = 660) : sQ Z D := by
  intro j hj
  rw [(hc j).1 (by unfold stat at hj; omega)]
  have := h g.toNat (by omega) j hj
  rw [show ((j : Int) - 0 + b).toNat = 660 * g.toNat + j by unfold stat at hj; omega]
  exact this
/-- the row on a SHELF -/
def okS (Z : Nat → Int32) (r : Nat) (V : Nat → Int32) : Prop := sQ Z (fun j => V (660 * r + j))
theorem okS_cp {Z D0 D X : Nat → Int32} {k a : Int} {r : Nat} (hq : sQ Z X) (hc : cp D0 D X a 0 k) (ha : a = 660 * (r : Int)) (hk : k = 660) : okS Z r D := by
  intro j hj
  show D (660 * r + j) = Z j
  rw [(hc (660 * r + j)).1 (by unfold stat at hj; omega), show (((660 * r + j : Nat) : Int) - a + 0).toNat = j by omega]
  exact hq j hj
theorem okS_ne {Z D0 D X : Nat → Int32} {k a : Int} {r r2 : Nat} (h : okS Z r2 D0) (hc : cp D0 D X a 0 k) (ha : a = 660 * (r : Int)) (hk : k = 660) (hne : r ≠ r2) : okS Z r2 D := by
  intro j hj
  show D (660 * r2 + j) = Z j
  rw [(hc (660 * r2 + j)).2 (by unfold stat at hj; omega)]
  exact h j hj
theorem okS_back {Z D0 D V : Nat → Int32} {b k : Int} {r : Nat} (h : okS Z r V) (hc : cp D0 D V 0 b k) (hb : b = 660 * (r : Int)) (hk : k = 660) : sQ Z D := by
  intro j hj
  rw [(hc j).1 (by unfold stat at hj; omega)]
  have := h j hj
  rw [show ((j : Int) - 0 + b).toNat = 660 * r + j by unfold stat at hj; omega]
  exact this
theorem ik_set {K K2 : Nat → Int32} {i x : Int32} {r r2 : Nat} (e : K2 = upd K i.toNatClampNeg (vp_nar .boolean x)) (hi : i.toInt = (r : Int)) (hx : x.toInt = 1) (hne : r ≠ r2) : gI K2 r = 1 ∧ gI K2 r2 = gI K r2 := by
  have h1 : x = 1 := swe (hx.trans (by decide))
  have h2 : i.toNatClampNeg = r := by show i.toInt.toNat = r; omega
  subst h1
  subst e
  rw [h2]
  unfold gI upd
  refine ⟨?_, ?_⟩
  · rw [if_pos rfl]
    decide
  · rw [if_neg (by omega)]
