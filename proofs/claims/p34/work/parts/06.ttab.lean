/-! the kinds of the class -/
abbrev A12F : TD := .inr (.inl (0, 12, ivP 12 (-2147483648) 2147483647))
abbrev A12D : TD := .inr (.inl (0, 12, ivP 12 (-2) 11))
abbrev A48F : TD := .inr (.inl (0, 48, ivP 48 (-2147483648) 2147483647))
abbrev A14F : TD := .inr (.inl (0, 14, ivP 14 (-2147483648) 2147483647))
abbrev A14R : TD := .inr (.inl (0, 14, ivP 14 0 11))
abbrev A14B : TD := .inr (.inl (0, 14, ivP 14 (-2) 11))
abbrev A14L : TD := .inr (.inl (0, 14, ivP 14 0 30))
abbrev A14O : TD := .inr (.inl (0, 14, ivP 14 (-2) 3))
abbrev A4F : TD := .inr (.inl (0, 4, ivP 4 (-2147483648) 2147483647))
abbrev A4R : TD := .inr (.inl (0, 4, ivP 4 0 11))
abbrev A4O : TD := .inr (.inl (0, 4, ivP 4 (-2) 13))
abbrev A360F : TD := .inr (.inl (0, 360, ivP 360 (-2147483648) 2147483647))
abbrev L6 : TD := .inr (.inr (.inl 6))
abbrev A18F : TD := .inr (.inl (0, 18, ivP 18 (-2147483648) 2147483647))
abbrev A18Q : TD := .inr (.inl (0, 18, ivP 18 0 17))
abbrev A18P : TD := .inr (.inl (0, 18, ivP 18 0 11))
abbrev B400 : TD := .inr (.inl (1, 400, ivP 400 (-128) 127))
abbrev dayD (q : FD) : TD := .inl (0, [(.inr [26, 27]), (.inr [17]), (.inr [14]), q, (.inr [15]), (.inr [0]), (.inr [0]), (.inr [13]), (.inr [13]), (.inr [3]), (.inr [3]), (.inr [8]), (.inr [8]), (.inl ((-2147483648), 2147483647)), (.inl ((-2147483648), 2147483647))])
abbrev riverD (a b c : FD) (g s f dn sk fl : Nat) : TD := .inl (2, [a, (.inr [dn]), (.inr [sk]), (.inr [fl]), b, (.inr [4]), (.inr [3]), (.inr [f]), (.inr [3]), (.inr [g]), (.inr [3]), (.inr [5]), (.inr [3]), (.inr [6]), c, (.inr [9]), (.inr [8]), (.inr [8]), (.inr [s]), (.inl ((-2147483648), 2147483647))])
abbrev rcD (t r s k : FD) : TD := .inl (6, [(.inr [30]), t, r, s, (.inr [17]), (.inr [19]), (.inl (0, 9)), (.inl ((-2147483648), 2147483647)), (.inr [21]), (.inr [20]), k, (.inr [24]), (.inr [22]), (.inr [29]), (.inr [23]), (.inr [3])])
abbrev rdD (p n f w r : FD) : TD := .inl (3, [(.inr [30]), n, p, f, w, r])
abbrev stateD : TD := .inl (5, [(.inl (0, 359)), (.inl ((-2147483648), 2147483647)), (.inr [4]), (.inr [3]), (.inr [3]), (.inr [3]), (.inr [7]), (.inr [3]), (.inr [8]), (.inr [10]), (.inr [8]), (.inr [11]), (.inr [12])])
abbrev outD : TD := .inl (1, [(.inr [17]), (.inr [25]), (.inr [26, 27]), (.inr [17]), (.inr [3]), (.inl ((-2147483648), 2147483647)), (.inl ((-2147483648), 2147483647)), (.inl ((-2147483648), 2147483647)), (.inl ((-2147483648), 2147483647)), (.inl ((-2147483648), 2147483647)), (.inl ((-2147483648), 2147483647))])
abbrev wrD : TD := .inl (4, [(.inr [26, 27]), (.inr [17]), (.inl ((-2147483648), 2147483647)), (.inl ((-2147483648), 2147483647)), (.inl ((-2147483648), 2147483647))])
abbrev PastD : TD := .inr (.inr (.inr (5, 10, fun _ => [17])))
abbrev ShSD : TD := .inr (.inr (.inr (5, 2, fun _ => [17])))
abbrev ShRD : TD := .inr (.inr (.inr (4, 2, fun j => [37 + j])))
abbrev tbC (dA dB rA rB rc rd tp ya yb yc yd ye yf rC rD wd1 wd2 wd3 wd4 ws1 ws2 ws3 ws4 wi1 wi2 wi3 wi4 : TD) : List TD := [A12F, A12D, A48F, A14F, A14R, A14B, A14L, A14O, A4F, A4R, A4O, A360F, L6, A18F, A18Q, A18P, B400, stateD, L6, PastD, ShSD, ShRD, outD, wrD, dA, dB, rA, rB, rc, rd, tp, ya, yb, yc, yd, ye, yf, rC, rD, wd1, wd2, wd3, wd4, ws1, ws2, ws3, ws4, wi1, wi2, wi3, wi4]
theorem clX0 : CLS 0 RX0 TX0 15 tyX0 := ⟨rfl, inlX0, tyX0_ok, nmX0⟩
theorem clX1 : CLS 1 RX1 TX1 11 tyX1 := ⟨rfl, inlX1, tyX1_ok, nmX1⟩
theorem clX2 : CLS 2 RX2 TX2 20 tyX2 := ⟨rfl, inlX2, tyX2_ok, nmX2⟩
theorem clX3 : CLS 3 RX3 TX3 6 tyX3 := ⟨rfl, inlX3, tyX3_ok, nmX3⟩
theorem clX4 : CLS 4 RX4 TX4 5 tyX4 := ⟨rfl, inlX4, tyX4_ok, nmX4⟩
theorem clX5 : CLS 5 RX5 TX5 13 tyX5 := ⟨rfl, inlX5, tyX5_ok, nmX5⟩
theorem clX6 : CLS 6 RX6 TX6 16 tyX6 := ⟨rfl, inlX6, tyX6_ok, nmX6⟩
theorem clX7 : CLS 7 RX7 TX7 42 tyX7 := ⟨rfl, inlX7, tyX7_ok, nmX7⟩
