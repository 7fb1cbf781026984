theorem zD_v2 {X : RwF} {r q q2 x v : Int} (hx : x = gI X (6 + 6 * r + q).toNat) (hq : q = 0) (h0 : 0 ≤ r) (hv : v = gI X (6 + 6 * r + q2).toNat) (hq2 : q2 = 0) (h : x ≠ -1) : v = gI (zD X) r.toNat := by
  have e : v = x := by rw [hx, hv, hq, hq2]
  exact zD_v hx hq h0 (Or.inr ⟨h, e⟩)

set_option maxHeartbeats 4000000 in
set_option maxRecDepth 100000 in
theorem c_X7_isReach_x (E : Ev) (ws : TD) (kp : TD) (as : TD) (rd : TD) (sc : TD) (ty : TD) (ik : TD) (un : Int × Int) (tk : Int × Int) (xt : Int × Int) (tp : Int × Int) (sp : Int × Int) (wrb : Int × Int) (nu : Int × Int) (nab : Int × Int) (iwb : Int × Int) (X0 : Nat → Int32) (a0 : Nat) (a1 : Int32) (ha0 : eT E a0 ∈ [24]) (hX0 : okA X0) : TcI E yX7_isReach cX7_isReach 2 .boolean ({ frames := 2, cells := 0, slots := 0, locals := 65 }) [.ref a0, .int a1] (fun H => TH E (tbM (mD (.inl tp) (.inl sp) (.inl nu) (.inl un) (.inl tk) (.inl xt) (.inl wrb) (.inl nab) (.inl iwb)) (xD 660 X0) ws kp as rd sc ty ik) H) (fun v H => (0 ≤ v.toInt ∧ v.toInt ≤ 1) ∧ (v.toInt = 1 → 0 ≤ a1.toInt ∧ a1.toInt ≤ 11) ∧ ((v.toInt = 1 ∧ 0 ≤ a1.toInt ∧ a1.toInt < gI X0 0) ∨ (v.toInt = 0 ∧ (a1.toInt < 0 ∨ gI X0 0 ≤ a1.toInt))) ∧ TH E (tbM (mD (.inl tp) (.inl sp) (.inl nu) (.inl un) (.inl tk) (.inl xt) (.inl wrb) (.inl nab) (.inl iwb)) (xD 660 X0) ws kp as rd sc ty ik) H) := by
  refine teI (by decide) (Nat.le_of_ble_eq_true rfl) ?_
  intro p_ ev_ s mi_ below_ meth cd_ ls F hK hN hO hH hS hl
  have hH : TH E (tbM (mD (.inl tp) (.inl sp) (.inl nu) (.inl un) (.inl tk) (.inl xt) (.inl wrb) (.inl nab) (.inl iwb)) (xD 660 X0) ws kp as rd sc ty ik) s.heap := hH
  have hl : lv_has ls 2 [(0, .ref a0), (1, .int a1)] := hl
  have hBX0 := okB hX0
  refine lv_iload_n F.1 F.2.1 dX7_isReach_0 rfl (lv_at hl 1 rfl) ?_
  refine tI2l F dX7_isReach_1 (fun w_1 hw_1 => ?_)
  refine lv_lconst (v := 0) F.1 F.2.1 dX7_isReach_2 (by decide) ?_
  refine topKL (a := 0) (by decide) (fun j_2 hj_2 => ?_)
  refine lv_aload_n F.1 F.2.1 dX7_isReach_3 rfl (lv_at hl 0 rfl) ?_
  refine tVi (b := a0) (As := []) (rest := [.long j_2, .long w_1]) F hK hN hO (c_X7_reaches E ws kp as rd sc ty ik un tk xt tp sp wrb nu nab iwb X0 a0 ha0 hX0) mv_X7_reaches wd_28_7 ⟨Nat.le_of_ble_eq_true rfl, Nat.le_of_ble_eq_true rfl⟩ ⟨Nat.le_of_ble_eq_true rfl, Nat.le_of_ble_eq_true rfl⟩ hH hS (tRecv hK hH (tyb ha0 (all1 rfl)) clX7) rfl hl.1 (Nat.le_of_ble_eq_true rfl) dX7_isReach_4 (fun z_3 H locs hq hS => ?_)
  obtain ⟨f_4, f_5, hH⟩ := hq
  have hH : TH E (tbM (mD (.inl tp) (.inl sp) (.inl nu) (.inl un) (.inl tk) (.inl xt) (.inl wrb) (.inl nab) (.inl iwb)) (xD 660 X0) ws kp as rd sc ty ik) H := hH
  refine lv_iconst (v := 1) F.1 F.2.1 dX7_isReach_7 (by decide) ?_
  refine topK (a := 1) (by decide) (fun k_6 hk_6 => ?_)
  refine tSub (lo := (-1)) (hi := 11) F dX7_isReach_8 f_4 (eqb hk_6) rfl (fun z_7 hz_7 => ?_)
  refine tI2l F dX7_isReach_9 (fun w_8 hw_8 => ?_)
  refine tSi (As := [.long w_1, .long j_2, .long w_8]) (rest := []) F hK hN hO (c_X7_in E (mD (.inl tp) (.inl sp) (.inl nu) (.inl un) (.inl tk) (.inl xt) (.inl wrb) (.inl nab) (.inl iwb)) (xD 660 X0) ws kp as rd sc ty ik w_1 j_2 w_8) ms_X7_in wd_8_10 ⟨Nat.le_of_ble_eq_true rfl, Nat.le_of_ble_eq_true rfl⟩ ⟨Nat.le_of_ble_eq_true rfl, Nat.le_of_ble_eq_true rfl⟩ hH hS rfl hl.1 (Nat.le_of_ble_eq_true rfl) dX7_isReach_10 (fun z_9 H locs hq hS => ?_)
  obtain ⟨f_10, f_11, hH⟩ := hq
  have hH : TH E (tbM (mD (.inl tp) (.inl sp) (.inl nu) (.inl un) (.inl tk) (.inl xt) (.inl wrb) (.inl nab) (.inl iwb)) (xD 660 X0) ws kp as rd sc ty ik) H := hH
  exact txI F hS dX7_isReach_13 (nar01 f_10) (⟨f_10, (by omega), (by omega), hH⟩)
set_option maxHeartbeats 4000000 in
set_option maxRecDepth 100000 in
theorem c_X7_ofReach_x (E : Ev) (ws : TD) (kp : TD) (as : TD) (rd : TD) (sc : TD) (ty : TD) (ik : TD) (un : Int × Int) (tk : Int × Int) (xt : Int × Int) (tp : Int × Int) (sp : Int × Int) (wrb : Int × Int) (nu : Int × Int) (nab : Int × Int) (iwb : Int × Int) (X0 : Nat → Int32) (a0 : Nat) (a1 : Int32) (a2 : Int32) (ha0 : eT E a0 ∈ [24]) (ha1 : 0 ≤ a1.toInt ∧ a1.toInt ≤ 11) (ha2 : 0 ≤ a2.toInt ∧ a2.toInt ≤ 5) (hX0 : okA X0) : TcI E yX7_ofReach cX7_ofReach 3 .int ({ frames := 1, cells := 0, slots := 0, locals := 40 }) [.ref a0, .int a1, .int a2] (fun H => TH E (tbM (mD (.inl tp) (.inl sp) (.inl nu) (.inl un) (.inl tk) (.inl xt) (.inl wrb) (.inl nab) (.inl iwb)) (xD 660 X0) ws kp as rd sc ty ik) H) (fun v H => ((-2147483648) ≤ v.toInt ∧ v.toInt ≤ 2147483647) ∧ (v.toInt = gI X0 (6 + 6 * a1.toInt + a2.toInt).toNat) ∧ TH E (tbM (mD (.inl tp) (.inl sp) (.inl nu) (.inl un) (.inl tk) (.inl xt) (.inl wrb) (.inl nab) (.inl iwb)) (xD 660 X0) ws kp as rd sc ty ik) H) := by
  refine teI (by decide) (Nat.le_of_ble_eq_true rfl) ?_
  intro p_ ev_ s mi_ below_ meth cd_ ls F hK hN hO hH hS hl
  have hH : TH E (tbM (mD (.inl tp) (.inl sp) (.inl nu) (.inl un) (.inl tk) (.inl xt) (.inl wrb) (.inl nab) (.inl iwb)) (xD 660 X0) ws kp as rd sc ty ik) s.heap := hH
  have hl : lv_has ls 3 [(0, .ref a0), (1, .int a1), (2, .int a2)] := hl
  have hBX0 := okB hX0
  refine lv_aload_n F.1 F.2.1 dX7_ofReach_0 rfl (lv_at hl 0 rfl) ?_
  refine tGetR (j := 0) F hK hH (tyb ha0 (all1 rfl)) rfl (all1 rfl) clX7 (by decide) wd_6_5 dX7_ofReach_1 (fun q_1 hq_1 _ => ?_)
  refine lv_bipush (v := 6) F.1 F.2.1 dX7_ofReach_4 (by decide) ?_
  refine topK (a := 6) (by decide) (fun k_2 hk_2 => ?_)
  refine lv_bipush (v := 6) F.1 F.2.1 dX7_ofReach_6 (by decide) ?_
  refine topK (a := 6) (by decide) (fun k_3 hk_3 => ?_)
  refine lv_iload_n F.1 F.2.1 dX7_ofReach_8 rfl (lv_at hl 1 rfl) ?_
  refine tMul (lo := 0) (hi := 66) F dX7_ofReach_9 (eqb hk_3) ha1 rfl (fun z_4 hz_4 => ?_)
  have mz_4 : z_4.toInt = 6 * a1.toInt := by rw [hz_4.1, hk_3]
  refine tAdd (lo := 6) (hi := 72) F dX7_ofReach_10 (eqb hk_2) hz_4.2 rfl (fun z_5 hz_5 => ?_)
  refine lv_iload_n F.1 F.2.1 dX7_ofReach_11 rfl (lv_at hl 2 rfl) ?_
  refine tAdd (lo := 6) (hi := 77) F dX7_ofReach_12 hz_5.2 ha2 rfl (fun z_6 hz_6 => ?_)
  refine tIaldX F hK hH (tyb hq_1 (all1 rfl)) (ixb (n := 660) hz_6.2 rfl rfl) dX7_ofReach_13 (fun z_7 ez_7 => ?_)
  have gz_7 : z_7.toInt = gI X0 ((6 + 6 * a1.toInt + a2.toInt).toNat) := by unfold gI; rw [ez_7, show (z_6).toNatClampNeg = ((6 + 6 * a1.toInt + a2.toInt).toNat) from by show (z_6).toInt.toNat = _; omega]
  exact txI F hS dX7_ofReach_14 rfl (⟨(i32b _), (by omega), hH⟩)
set_option maxHeartbeats 4000000 in
set_option maxRecDepth 100000 in
theorem c_X7_runsTo_x (E : Ev) (ws : TD) (kp : TD) (as : TD) (rd : TD) (sc : TD) (ty : TD) (ik : TD) (un : Int × Int) (tk : Int × Int) (xt : Int × Int) (tp : Int × Int) (sp : Int × Int) (wrb : Int × Int) (nu : Int × Int) (nab : Int × Int) (iwb : Int × Int) (X0 : Nat → Int32) (a0 : Nat) (a1 : Int32) (a2 : Int32) (ha0 : eT E a0 ∈ [24]) (ha1 : 0 ≤ a1.toInt ∧ a1.toInt ≤ 11) (ha2 : 0 ≤ a2.toInt ∧ a2.toInt ≤ 11) (hX0 : okR X0) (h6 : gI X0 6 = -1) : TcI E yX7_runsTo cX7_runsTo 4 .boolean ({ frames := 2, cells := 0, slots := 0, locals := 62 }) [.ref a0, .int a1, .int a2] (fun H => TH E (tbM (mD (.inl tp) (.inl sp) (.inl nu) (.inl un) (.inl tk) (.inl xt) (.inl wrb) (.inl nab) (.inl iwb)) (xD 660 X0) ws kp as rd sc ty ik) H) (fun v H => (0 ≤ v.toInt ∧ v.toInt ≤ 1) ∧ (v.toInt = jTo (zD X0) a2.toInt 12 a1.toInt) ∧ TH E (tbM (mD (.inl tp) (.inl sp) (.inl nu) (.inl un) (.inl tk) (.inl xt) (.inl wrb) (.inl nab) (.inl iwb)) (xD 660 X0) ws kp as rd sc ty ik) H) := by
  refine teI (by decide) (Nat.le_of_ble_eq_true rfl) ?_
  intro p_ ev_ s mi_ below_ meth cd_ ls F hK hN hO hH hS hl
  have hH : TH E (tbM (mD (.inl tp) (.inl sp) (.inl nu) (.inl un) (.inl tk) (.inl xt) (.inl wrb) (.inl nab) (.inl iwb)) (xD 660 X0) ws kp as rd sc ty ik) s.heap := hH
  have hl : lv_has ls 4 [(0, .ref a0), (1, .int a1), (2, .int a2)] := hl
  have hBX0 := okB hX0.1
  have hLX0 := hX0.2
  have hd_ := zD_dn hX0 h6
  refine lv_iload_n F.1 F.2.1 dX7_runsTo_0 rfl (lv_at hl 1 rfl) ?_
  refine lv_istore_n (lv' := [(3, .int a1), (0, .ref a0), (1, .int a1), (2, .int a2)]) F.1 F.2.1 dX7_runsTo_1 rfl hl (by decide) rfl (fun ls hl => ?_)
  refine wloop (σ := Int32) (fun n9 x9 H locs ls => (x9.toInt + 2).toNat < n9 ∧ ((-1) ≤ x9.toInt ∧ x9.toInt ≤ 11) ∧ (jTo (zD X0) a2.toInt 12 (x9.toInt) = jTo (zD X0) a2.toInt 12 a1.toInt) ∧ TH E (tbM (mD (.inl tp) (.inl sp) (.inl nu) (.inl un) (.inl tk) (.inl xt) (.inl wrb) (.inl nab) (.inl iwb)) (xD 660 X0) ws kp as rd sc ty ik) H ∧ va_S (eA E s.heap.size) s.heap H locs ∧ lv_has ls 4 [(0, .ref a0), (2, .int a2), (3, .int x9)]) ?_ (fun x9 H locs ls h => absurd h.1 (Nat.not_lt_zero _)) _ (a1) ⟨Nat.lt_succ_self _, (wkb ha1 rfl rfl), (show jTo (zD X0) a2.toInt 12 (a1.toInt) = jTo (zD X0) a2.toInt 12 a1.toInt from (mto_0 rfl)), hH, hS, lv_sub hl [1, 3, 0] rfl⟩
  intro n_2 ih_2 u_1 H locs ls ⟨hm_2, hu_1, hcr2_0, hH, hS, hl⟩
  have hm_2 : (u_1.toInt + 2).toNat < n_2 + 1 := hm_2
  have hu_1 : ((-1) ≤ u_1.toInt ∧ u_1.toInt ≤ 11) := hu_1
  have hcr2_0 : (jTo (zD X0) a2.toInt 12 (u_1.toInt) = jTo (zD X0) a2.toInt 12 a1.toInt) := hcr2_0
  have hH : TH E (tbM (mD (.inl tp) (.inl sp) (.inl nu) (.inl un) (.inl tk) (.inl xt) (.inl wrb) (.inl nab) (.inl iwb)) (xD 660 X0) ws kp as rd sc ty ik) H := hH
  have hl : lv_has ls 4 [(0, .ref a0), (2, .int a2), (3, .int u_1)] := hl
  refine lv_iload_n F.1 F.2.1 dX7_runsTo_2 rfl (lv_at hl 2 rfl) ?_
  refine lv_iload_n F.1 F.2.1 dX7_runsTo_3 rfl (lv_at hl 1 rfl) ?_
  refine b_eq (tgt := 22) F dX7_runsTo_4 (by decide) (fun c_2 => ?_) (fun c_2 => ?_)
  · skip
    have r_3 : 0 ≤ u_1.toInt ∧ u_1.toInt ≤ 11 := by have h9_ := hu_1; omega
    refine lv_iload_n F.1 F.2.1 dX7_runsTo_22 rfl (lv_at hl 2 rfl) ?_
    refine lv_iload_n F.1 F.2.1 dX7_runsTo_23 rfl (lv_at hl 1 rfl) ?_
    refine b_ne (tgt := 31) F dX7_runsTo_24 (by decide) (fun c_4 => ?_) (fun c_4 => ?_)
    · skip
      refine lv_iconst (v := 0) F.1 F.2.1 dX7_runsTo_31 (by decide) ?_
      refine topK (a := 0) (by decide) (fun k_5 hk_5 => ?_)
      exact txI F hS dX7_runsTo_32 (nar01 (wkb (eqb hk_5) rfl rfl)) (⟨(wkb (eqb hk_5) rfl rfl), (mto_n hcr2_0 (by omega) (by omega)), hH⟩)
    · skip
      refine lv_iconst (v := 1) F.1 F.2.1 dX7_runsTo_27 (by decide) ?_
      refine topK (a := 1) (by decide) (fun k_6 hk_6 => ?_)
      refine lv_goto (tgt := 32) F.1 F.2.1 dX7_runsTo_28 (by decide) ?_
      exact txI F hS dX7_runsTo_32 (nar01 (wkb (eqb hk_6) rfl rfl)) (⟨(wkb (eqb hk_6) rfl rfl), (mto_y hcr2_0 (by omega) (by omega) (by omega)), hH⟩)
  · skip
    refine lv_iload_n F.1 F.2.1 dX7_runsTo_7 rfl (lv_at hl 2 rfl) ?_
    refine lv_iconst (v := (-1)) F.1 F.2.1 dX7_runsTo_8 (by decide) ?_
    refine topK (a := (-1)) (by decide) (fun k_7 hk_7 => ?_)
    refine b_eq (tgt := 22) F dX7_runsTo_9 (by decide) (fun c_8 => ?_) (fun c_8 => ?_)
    · skip
      have r_9 : (-1) ≤ u_1.toInt ∧ u_1.toInt ≤ (-1) := by have h9_ := hu_1; omega
      refine lv_iload_n F.1 F.2.1 dX7_runsTo_22 rfl (lv_at hl 2 rfl) ?_
      refine lv_iload_n F.1 F.2.1 dX7_runsTo_23 rfl (lv_at hl 1 rfl) ?_
      refine b_ne (tgt := 31) F dX7_runsTo_24 (by decide) (fun c_11 => ?_) (fun c_11 => absurd c_11 (by omega))
      refine lv_iconst (v := 0) F.1 F.2.1 dX7_runsTo_31 (by decide) ?_
      refine topK (a := 0) (by decide) (fun k_12 hk_12 => ?_)
      exact txI F hS dX7_runsTo_32 (nar01 (wkb (eqb hk_12) rfl rfl)) (⟨(wkb (eqb hk_12) rfl rfl), (mto_n hcr2_0 (by omega) (by omega)), hH⟩)
    · skip
      have r_10 : 0 ≤ u_1.toInt ∧ u_1.toInt ≤ 11 := by have h9_ := hu_1; omega
      refine lv_aload_n F.1 F.2.1 dX7_runsTo_12 rfl (lv_at hl 0 rfl) ?_
      refine lv_iload_n F.1 F.2.1 dX7_runsTo_13 rfl (lv_at hl 2 rfl) ?_
      refine lv_iconst (v := 0) F.1 F.2.1 dX7_runsTo_14 (by decide) ?_
      refine topK (a := 0) (by decide) (fun k_13 hk_13 => ?_)
      refine tVi (b := a0) (As := [.int u_1, .int k_13]) (rest := []) F hK hN hO (c_X7_ofReach_0 E ws kp as rd sc ty ik un tk xt tp sp wrb nu nab iwb X0 a0 u_1 k_13 ha0 r_10 (eqb hk_13) ((hX0).1)) mv_X7_ofReach wd_28_15 ⟨Nat.le_of_ble_eq_true rfl, Nat.le_of_ble_eq_true rfl⟩ ⟨Nat.le_of_ble_eq_true rfl, Nat.le_of_ble_eq_true rfl⟩ hH hS (tRecv hK hH (tyb ha0 (all1 rfl)) clX7) rfl hl.1 (Nat.le_of_ble_eq_true rfl) dX7_runsTo_15 (fun z_14 H locs hq hS => ?_)
      obtain ⟨f_15, f_16, f_17, hH⟩ := hq
      have hH : TH E (tbM (mD (.inl tp) (.inl sp) (.inl nu) (.inl un) (.inl tk) (.inl xt) (.inl wrb) (.inl nab) (.inl iwb)) (xD 660 X0) ws kp as rd sc ty ik) H := hH
      refine lv_istore_n (lv' := [(3, .int z_14), (0, .ref a0), (2, .int a2)]) F.1 F.2.1 dX7_runsTo_18 rfl hl (by decide) rfl (fun ls hl => ?_)
      refine lv_goto (tgt := 2) F.1 F.2.1 dX7_runsTo_19 (by decide) ?_
      exact ih_2 (z_14) _ _ _ ⟨(show (z_14.toInt + 2).toNat < n_2 from by omega), (wkb f_15 rfl rfl), (show jTo (zD X0) a2.toInt 12 (z_14.toInt) = jTo (zD X0) a2.toInt 12 a1.toInt from (mto_step hd_ hcr2_0 (by omega) (by omega) (by omega) f_16)), hH, hS, lv_sub hl [1, 2, 0] rfl⟩
set_option maxHeartbeats 4000000 in
set_option maxRecDepth 100000 in
theorem c_X7_farOf_x (E : Ev) (ws : TD) (kp : TD) (as : TD) (rd : TD) (sc : TD) (ty : TD) (ik : TD) (un : Int × Int) (tk : Int × Int) (xt : Int × Int) (tp : Int × Int) (sp : Int × Int) (wrb : Int × Int) (nu : Int × Int) (nab : Int × Int) (iwb : Int × Int) (X0 : Nat → Int32) (a0 : Nat) (a1 : Int32) (ha0 : eT E a0 ∈ [24]) (ha1 : 0 ≤ a1.toInt ∧ a1.toInt ≤ 11) (hX0 : okR X0) (h6 : gI X0 6 = -1) : TcI E yX7_farOf cX7_farOf 4 .int ({ frames := 2, cells := 0, slots := 0, locals := 62 }) [.ref a0, .int a1] (fun H => TH E (tbM (mD (.inl tp) (.inl sp) (.inl nu) (.inl un) (.inl tk) (.inl xt) (.inl wrb) (.inl nab) (.inl iwb)) (xD 660 X0) ws kp as rd sc ty ik) H) (fun v H => ((-2147483648) ≤ v.toInt ∧ v.toInt ≤ 2147483647) ∧ (v.toInt = jFar (zD X0) 12 a1.toInt) ∧ TH E (tbM (mD (.inl tp) (.inl sp) (.inl nu) (.inl un) (.inl tk) (.inl xt) (.inl wrb) (.inl nab) (.inl iwb)) (xD 660 X0) ws kp as rd sc ty ik) H) := by
  refine teI (by decide) (Nat.le_of_ble_eq_true rfl) ?_
  intro p_ ev_ s mi_ below_ meth cd_ ls F hK hN hO hH hS hl
  have hH : TH E (tbM (mD (.inl tp) (.inl sp) (.inl nu) (.inl un) (.inl tk) (.inl xt) (.inl wrb) (.inl nab) (.inl iwb)) (xD 660 X0) ws kp as rd sc ty ik) s.heap := hH
  have hl : lv_has ls 4 [(0, .ref a0), (1, .int a1)] := hl
  have hBX0 := okB hX0.1
  have hLX0 := hX0.2
  have hd_ := zD_dn hX0 h6
  refine lv_iconst (v := 0) F.1 F.2.1 dX7_farOf_0 (by decide) ?_
  refine topK (a := 0) (by decide) (fun k_1 hk_1 => ?_)
  refine lv_istore_n (lv' := [(2, .int k_1), (0, .ref a0), (1, .int a1)]) F.1 F.2.1 dX7_farOf_1 rfl hl (by decide) rfl (fun ls hl => ?_)
  refine lv_iload_n F.1 F.2.1 dX7_farOf_2 rfl (lv_at hl 2 rfl) ?_
  refine lv_istore_n (lv' := [(3, .int a1), (2, .int k_1), (0, .ref a0), (1, .int a1)]) F.1 F.2.1 dX7_farOf_3 rfl hl (by decide) rfl (fun ls hl => ?_)
  refine wloop (σ := Int32 × Int32) (fun n9 x9 H locs ls => (x9.2.toInt + 2).toNat < n9 ∧ (0 ≤ x9.1.toInt ∧ x9.1.toInt ≤ 12) ∧ ((-1) ≤ x9.2.toInt ∧ x9.2.toInt ≤ 11) ∧ (x9.1.toInt + jFar (zD X0) 12 (x9.2.toInt) = jFar (zD X0) 12 a1.toInt) ∧ (x9.1.toInt + x9.2.toInt ≤ 11) ∧ TH E (tbM (mD (.inl tp) (.inl sp) (.inl nu) (.inl un) (.inl tk) (.inl xt) (.inl wrb) (.inl nab) (.inl iwb)) (xD 660 X0) ws kp as rd sc ty ik) H ∧ va_S (eA E s.heap.size) s.heap H locs ∧ lv_has ls 4 [(0, .ref a0), (2, .int x9.1), (3, .int x9.2)]) ?_ (fun x9 H locs ls h => absurd h.1 (Nat.not_lt_zero _)) _ (k_1, a1) ⟨Nat.lt_succ_self _, (wkb (eqb hk_1) rfl rfl), (wkb ha1 rfl rfl), (show k_1.toInt + jFar (zD X0) 12 (a1.toInt) = jFar (zD X0) 12 a1.toInt from (mfar_0 (by omega) rfl)), (show k_1.toInt + a1.toInt ≤ 11 from by omega), hH, hS, lv_sub hl [2, 1, 0] rfl⟩
  intro n_4 ih_4 ⟨u_2, u_3⟩ H locs ls ⟨hm_4, hu_2, hu_3, hcr4_0, hcr4_1, hH, hS, hl⟩
  have hm_4 : (u_3.toInt + 2).toNat < n_4 + 1 := hm_4
  have hu_2 : (0 ≤ u_2.toInt ∧ u_2.toInt ≤ 12) := hu_2
  have hu_3 : ((-1) ≤ u_3.toInt ∧ u_3.toInt ≤ 11) := hu_3
  have hcr4_0 : (u_2.toInt + jFar (zD X0) 12 (u_3.toInt) = jFar (zD X0) 12 a1.toInt) := hcr4_0
  have hcr4_1 : (u_2.toInt + u_3.toInt ≤ 11) := hcr4_1
  have hH : TH E (tbM (mD (.inl tp) (.inl sp) (.inl nu) (.inl un) (.inl tk) (.inl xt) (.inl wrb) (.inl nab) (.inl iwb)) (xD 660 X0) ws kp as rd sc ty ik) H := hH
  have hl : lv_has ls 4 [(0, .ref a0), (2, .int u_2), (3, .int u_3)] := hl
  refine lv_iload_n F.1 F.2.1 dX7_farOf_4 rfl (lv_at hl 2 rfl) ?_
  refine lv_iconst (v := (-1)) F.1 F.2.1 dX7_farOf_5 (by decide) ?_
  refine topK (a := (-1)) (by decide) (fun k_4 hk_4 => ?_)
  refine b_eq (tgt := 22) F dX7_farOf_6 (by decide) (fun c_5 => ?_) (fun c_5 => ?_)
  · skip
    have r_6 : (-1) ≤ u_3.toInt ∧ u_3.toInt ≤ (-1) := by have h9_ := hu_3; omega
    refine lv_iload_n F.1 F.2.1 dX7_farOf_22 rfl (lv_at hl 1 rfl) ?_
    exact txI F hS dX7_farOf_23 rfl (⟨(wkb hu_2 rfl rfl), (mfar_end hcr4_0 (by omega)), hH⟩)
  · skip
    have r_7 : 0 ≤ u_3.toInt ∧ u_3.toInt ≤ 11 := by have h9_ := hu_3; omega
    obtain ⟨x_8, ex_8, hx_8⟩ := iincB (c := 1) (lo := 1) (hi := 13) hu_2 rfl
    refine lv_iinc (v := x_8) (lv' := [(2, .int x_8), (0, .ref a0), (3, .int u_3)]) F.1 F.2.1 dX7_farOf_9 hl (k := 1) rfl ex_8 (by decide) rfl (fun ls hl => ?_)
    refine lv_aload_n F.1 F.2.1 dX7_farOf_12 rfl (lv_at hl 1 rfl) ?_
    refine lv_iload_n F.1 F.2.1 dX7_farOf_13 rfl (lv_at hl 2 rfl) ?_
    refine lv_iconst (v := 0) F.1 F.2.1 dX7_farOf_14 (by decide) ?_
    refine topK (a := 0) (by decide) (fun k_9 hk_9 => ?_)
    refine tVi (b := a0) (As := [.int u_3, .int k_9]) (rest := []) F hK hN hO (c_X7_ofReach_0 E ws kp as rd sc ty ik un tk xt tp sp wrb nu nab iwb X0 a0 u_3 k_9 ha0 r_7 (eqb hk_9) ((hX0).1)) mv_X7_ofReach wd_28_15 ⟨Nat.le_of_ble_eq_true rfl, Nat.le_of_ble_eq_true rfl⟩ ⟨Nat.le_of_ble_eq_true rfl, Nat.le_of_ble_eq_true rfl⟩ hH hS (tRecv hK hH (tyb ha0 (all1 rfl)) clX7) rfl hl.1 (Nat.le_of_ble_eq_true rfl) dX7_farOf_15 (fun z_10 H locs hq hS => ?_)
    obtain ⟨f_11, f_12, f_13, hH⟩ := hq
    have hH : TH E (tbM (mD (.inl tp) (.inl sp) (.inl nu) (.inl un) (.inl tk) (.inl xt) (.inl wrb) (.inl nab) (.inl iwb)) (xD 660 X0) ws kp as rd sc ty ik) H := hH
    refine lv_istore_n (lv' := [(3, .int z_10), (2, .int x_8), (0, .ref a0)]) F.1 F.2.1 dX7_farOf_18 rfl hl (by decide) rfl (fun ls hl => ?_)
    refine lv_goto (tgt := 4) F.1 F.2.1 dX7_farOf_19 (by decide) ?_
    exact ih_4 (x_8, z_10) _ _ _ ⟨(show (z_10.toInt + 2).toNat < n_4 from by omega), (show 0 ≤ x_8.toInt ∧ x_8.toInt ≤ 12 from by omega), (wkb f_11 rfl rfl), (show x_8.toInt + jFar (zD X0) 12 (z_10.toInt) = jFar (zD X0) 12 a1.toInt from (mfar_step hd_ hcr4_0 (by omega) (by omega) (by omega) f_12)), (show x_8.toInt + z_10.toInt ≤ 11 from by omega), hH, hS, lv_sub hl [2, 1, 0] rfl⟩
set_option maxHeartbeats 4000000 in
set_option maxRecDepth 100000 in
theorem c_X7_runningTo_x (E : Ev) (ws : TD) (kp : TD) (as : TD) (rd : TD) (sc : TD) (ty : TD) (ik : TD) (un : Int × Int) (tk : Int × Int) (xt : Int × Int) (tp : Int × Int) (sp : Int × Int) (wrb : Int × Int) (nu : Int × Int) (nab : Int × Int) (iwb : Int × Int) (X0 : Nat → Int32) (a0 : Nat) (a1 : Int32) (ha0 : eT E a0 ∈ [24]) (ha1 : 0 ≤ a1.toInt ∧ a1.toInt ≤ 11) (hX0 : okR X0) : TcI E yX7_runningTo cX7_runningTo 4 .int ({ frames := 2, cells := 0, slots := 0, locals := 62 }) [.ref a0, .int a1] (fun H => TH E (tbM (mD (.inl tp) (.inl sp) (.inl nu) (.inl un) (.inl tk) (.inl xt) (.inl wrb) (.inl nab) (.inl iwb)) (xD 660 X0) ws kp as rd sc ty ik) H) (fun v H => ((-2147483648) ≤ v.toInt ∧ v.toInt ≤ 2147483647) ∧ (v.toInt = jCnt (zD X0) a1.toInt (gI X0 0).toNat) ∧ TH E (tbM (mD (.inl tp) (.inl sp) (.inl nu) (.inl un) (.inl tk) (.inl xt) (.inl wrb) (.inl nab) (.inl iwb)) (xD 660 X0) ws kp as rd sc ty ik) H) := by
  refine teI (by decide) (Nat.le_of_ble_eq_true rfl) ?_
  intro p_ ev_ s mi_ below_ meth cd_ ls F hK hN hO hH hS hl
  have hH : TH E (tbM (mD (.inl tp) (.inl sp) (.inl nu) (.inl un) (.inl tk) (.inl xt) (.inl wrb) (.inl nab) (.inl iwb)) (xD 660 X0) ws kp as rd sc ty ik) s.heap := hH
  have hl : lv_has ls 4 [(0, .ref a0), (1, .int a1)] := hl
  have hBX0 := okB hX0.1
  have hLX0 := hX0.2
  refine lv_iconst (v := 0) F.1 F.2.1 dX7_runningTo_0 (by decide) ?_
  refine topK (a := 0) (by decide) (fun k_1 hk_1 => ?_)
  refine lv_istore_n (lv' := [(2, .int k_1), (0, .ref a0), (1, .int a1)]) F.1 F.2.1 dX7_runningTo_1 rfl hl (by decide) rfl (fun ls hl => ?_)
  refine lv_iconst (v := 0) F.1 F.2.1 dX7_runningTo_2 (by decide) ?_
  refine topK (a := 0) (by decide) (fun k_2 hk_2 => ?_)
  refine lv_istore_n (lv' := [(3, .int k_2), (2, .int k_1), (0, .ref a0), (1, .int a1)]) F.1 F.2.1 dX7_runningTo_3 rfl hl (by decide) rfl (fun ls hl => ?_)
  refine wloop (σ := Int32 × Int32) (fun n9 x9 H locs ls => (12 - x9.2.toInt + 1).toNat < n9 ∧ (0 ≤ x9.1.toInt ∧ x9.1.toInt ≤ 12) ∧ (0 ≤ x9.2.toInt ∧ x9.2.toInt ≤ 12) ∧ (x9.1.toInt = jCnt (zD X0) a1.toInt (x9.2.toInt).toNat) ∧ (x9.1.toInt ≤ x9.2.toInt) ∧ (x9.2.toInt ≤ gI X0 0) ∧ TH E (tbM (mD (.inl tp) (.inl sp) (.inl nu) (.inl un) (.inl tk) (.inl xt) (.inl wrb) (.inl nab) (.inl iwb)) (xD 660 X0) ws kp as rd sc ty ik) H ∧ va_S (eA E s.heap.size) s.heap H locs ∧ lv_has ls 4 [(0, .ref a0), (1, .int a1), (2, .int x9.1), (3, .int x9.2)]) ?_ (fun x9 H locs ls h => absurd h.1 (Nat.not_lt_zero _)) _ (k_1, k_2) ⟨Nat.lt_succ_self _, (wkb (eqb hk_1) rfl rfl), (wkb (eqb hk_2) rfl rfl), (show k_1.toInt = jCnt (zD X0) a1.toInt (k_2.toInt).toNat from (cnt_0 (by omega) (by omega))), (show k_1.toInt ≤ k_2.toInt from by omega), (show k_2.toInt ≤ gI X0 0 from by omega), hH, hS, lv_sub hl [2, 3, 1, 0] rfl⟩
  intro n_4 ih_4 ⟨u_3, u_4⟩ H locs ls ⟨hm_4, hu_3, hu_4, hcr4_0, hcr4_1, hcr4_2, hH, hS, hl⟩
  have hm_4 : (12 - u_4.toInt + 1).toNat < n_4 + 1 := hm_4
  have hu_3 : (0 ≤ u_3.toInt ∧ u_3.toInt ≤ 12) := hu_3
  have hu_4 : (0 ≤ u_4.toInt ∧ u_4.toInt ≤ 12) := hu_4
  have hcr4_0 : (u_3.toInt = jCnt (zD X0) a1.toInt (u_4.toInt).toNat) := hcr4_0
  have hcr4_1 : (u_3.toInt ≤ u_4.toInt) := hcr4_1
  have hcr4_2 : (u_4.toInt ≤ gI X0 0) := hcr4_2
  have hH : TH E (tbM (mD (.inl tp) (.inl sp) (.inl nu) (.inl un) (.inl tk) (.inl xt) (.inl wrb) (.inl nab) (.inl iwb)) (xD 660 X0) ws kp as rd sc ty ik) H := hH
  have hl : lv_has ls 4 [(0, .ref a0), (1, .int a1), (2, .int u_3), (3, .int u_4)] := hl
  refine lv_iload_n F.1 F.2.1 dX7_runningTo_4 rfl (lv_at hl 3 rfl) ?_
  refine lv_aload_n F.1 F.2.1 dX7_runningTo_5 rfl (lv_at hl 0 rfl) ?_
  refine tVi (b := a0) (As := []) (rest := [.int u_4]) F hK hN hO (c_X7_reaches E ws kp as rd sc ty ik un tk xt tp sp wrb nu nab iwb X0 a0 ha0 ((hX0).1)) mv_X7_reaches wd_28_7 ⟨Nat.le_of_ble_eq_true rfl, Nat.le_of_ble_eq_true rfl⟩ ⟨Nat.le_of_ble_eq_true rfl, Nat.le_of_ble_eq_true rfl⟩ hH hS (tRecv hK hH (tyb ha0 (all1 rfl)) clX7) rfl hl.1 (Nat.le_of_ble_eq_true rfl) dX7_runningTo_6 (fun z_5 H locs hq hS => ?_)
  obtain ⟨f_6, f_7, hH⟩ := hq
  have hH : TH E (tbM (mD (.inl tp) (.inl sp) (.inl nu) (.inl un) (.inl tk) (.inl xt) (.inl wrb) (.inl nab) (.inl iwb)) (xD 660 X0) ws kp as rd sc ty ik) H := hH
  refine b_ge (tgt := 36) F dX7_runningTo_9 (by decide) (fun c_8 => ?_) (fun c_8 => ?_)
  · skip
    refine lv_iload_n F.1 F.2.1 dX7_runningTo_36 rfl (lv_at hl 2 rfl) ?_
    exact txI F hS dX7_runningTo_37 rfl (⟨(wkb hu_3 rfl rfl), (cnt_end hcr4_0 (by omega)), hH⟩)
  · skip
    have r_9 : 0 ≤ u_4.toInt ∧ u_4.toInt ≤ 11 := by have h9_ := hu_4; omega
    have r_10 : 1 ≤ z_5.toInt ∧ z_5.toInt ≤ 12 := by have h9_ := f_6; omega
    refine lv_iload_n F.1 F.2.1 dX7_runningTo_12 rfl (lv_at hl 2 rfl) ?_
    refine lv_aload_n F.1 F.2.1 dX7_runningTo_13 rfl (lv_at hl 0 rfl) ?_
    refine lv_iload_n F.1 F.2.1 dX7_runningTo_14 rfl (lv_at hl 3 rfl) ?_
    refine lv_iconst (v := 0) F.1 F.2.1 dX7_runningTo_15 (by decide) ?_
    refine topK (a := 0) (by decide) (fun k_11 hk_11 => ?_)
    refine tVi (b := a0) (As := [.int u_4, .int k_11]) (rest := [.int u_3]) F hK hN hO (c_X7_ofReach_0 E ws kp as rd sc ty ik un tk xt tp sp wrb nu nab iwb X0 a0 u_4 k_11 ha0 r_9 (eqb hk_11) ((hX0).1)) mv_X7_ofReach wd_28_15 ⟨Nat.le_of_ble_eq_true rfl, Nat.le_of_ble_eq_true rfl⟩ ⟨Nat.le_of_ble_eq_true rfl, Nat.le_of_ble_eq_true rfl⟩ hH hS (tRecv hK hH (tyb ha0 (all1 rfl)) clX7) rfl hl.1 (Nat.le_of_ble_eq_true rfl) dX7_runningTo_16 (fun z_12 H locs hq hS => ?_)
    obtain ⟨f_13, f_14, f_15, hH⟩ := hq
    have hH : TH E (tbM (mD (.inl tp) (.inl sp) (.inl nu) (.inl un) (.inl tk) (.inl xt) (.inl wrb) (.inl nab) (.inl iwb)) (xD 660 X0) ws kp as rd sc ty ik) H := hH
    refine lv_iload_n F.1 F.2.1 dX7_runningTo_19 rfl (lv_at hl 1 rfl) ?_
    refine b_ne (tgt := 27) F dX7_runningTo_20 (by decide) (fun c_16 => ?_) (fun c_16 => ?_)
    · skip
      refine lv_iconst (v := 0) F.1 F.2.1 dX7_runningTo_27 (by decide) ?_
      refine topK (a := 0) (by decide) (fun k_19 hk_19 => ?_)
      refine tAdd (lo := 0) (hi := 12) F dX7_runningTo_28 hu_3 (eqb hk_19) rfl (fun z_20 hz_20 => ?_)
      refine lv_istore_n (lv' := [(2, .int z_20), (0, .ref a0), (1, .int a1), (3, .int u_4)]) F.1 F.2.1 dX7_runningTo_29 rfl hl (by decide) rfl (fun ls hl => ?_)
      obtain ⟨x_21, ex_21, hx_21⟩ := iincB (c := 1) (lo := 1) (hi := 12) r_9 rfl
      refine lv_iinc (v := x_21) (lv' := [(3, .int x_21), (2, .int z_20), (0, .ref a0), (1, .int a1)]) F.1 F.2.1 dX7_runningTo_30 hl (k := 3) rfl ex_21 (by decide) rfl (fun ls hl => ?_)
      refine lv_goto (tgt := 4) F.1 F.2.1 dX7_runningTo_33 (by decide) ?_
      exact ih_4 (z_20, x_21) _ _ _ ⟨(show (12 - x_21.toInt + 1).toNat < n_4 from by omega), hz_20.2, (wkb hx_21.2 rfl rfl), (show z_20.toInt = jCnt (zD X0) a1.toInt (x_21.toInt).toNat from (by first | exact cnt_y hcr4_0 (by omega) (by omega) (zD_y f_14 (by omega) (by omega) (by omega)) (by omega) | exact cnt_n hcr4_0 (by omega) (by omega) (zD_n f_14 (by omega) (by omega) (by omega)) (by omega))), (show z_20.toInt ≤ x_21.toInt from by omega), (show x_21.toInt ≤ gI X0 0 from by omega), hH, hS, lv_sub hl [2, 3, 1, 0] rfl⟩
    · skip
      have r_17 : 0 ≤ z_12.toInt ∧ z_12.toInt ≤ 10 := by have h9_ := f_13; omega
      have r_18 : 0 ≤ a1.toInt ∧ a1.toInt ≤ 10 := by have h9_ := ha1; omega
      refine lv_iconst (v := 1) F.1 F.2.1 dX7_runningTo_23 (by decide) ?_
      refine topK (a := 1) (by decide) (fun k_22 hk_22 => ?_)
      refine lv_goto (tgt := 28) F.1 F.2.1 dX7_runningTo_24 (by decide) ?_
      refine tAdd (lo := 1) (hi := 13) F dX7_runningTo_28 hu_3 (eqb hk_22) rfl (fun z_23 hz_23 => ?_)
      refine lv_istore_n (lv' := [(2, .int z_23), (0, .ref a0), (1, .int a1), (3, .int u_4)]) F.1 F.2.1 dX7_runningTo_29 rfl hl (by decide) rfl (fun ls hl => ?_)
      obtain ⟨x_24, ex_24, hx_24⟩ := iincB (c := 1) (lo := 1) (hi := 12) r_9 rfl
      refine lv_iinc (v := x_24) (lv' := [(3, .int x_24), (2, .int z_23), (0, .ref a0), (1, .int a1)]) F.1 F.2.1 dX7_runningTo_30 hl (k := 3) rfl ex_24 (by decide) rfl (fun ls hl => ?_)
      refine lv_goto (tgt := 4) F.1 F.2.1 dX7_runningTo_33 (by decide) ?_
      exact ih_4 (z_23, x_24) _ _ _ ⟨(show (12 - x_24.toInt + 1).toNat < n_4 from by omega), (show 0 ≤ z_23.toInt ∧ z_23.toInt ≤ 12 from by omega), (wkb hx_24.2 rfl rfl), (show z_23.toInt = jCnt (zD X0) a1.toInt (x_24.toInt).toNat from (by first | exact cnt_y hcr4_0 (by omega) (by omega) (zD_y f_14 (by omega) (by omega) (by omega)) (by omega) | exact cnt_n hcr4_0 (by omega) (by omega) (zD_n f_14 (by omega) (by omega) (by omega)) (by omega))), (show z_23.toInt ≤ x_24.toInt from by omega), (show x_24.toInt ≤ gI X0 0 from by omega), hH, hS, lv_sub hl [2, 3, 1, 0] rfl⟩
set_option maxHeartbeats 4000000 in
set_option maxRecDepth 100000 in
theorem c_X7_reach_x (E : Ev) (ws : TD) (kp : TD) (as : TD) (rd : TD) (sc : TD) (ty : TD) (ik : TD) (un : Int × Int) (tk : Int × Int) (xt : Int × Int) (tp : Int × Int) (sp : Int × Int) (wrb : Int × Int) (nu : Int × Int) (nab : Int × Int) (iwb : Int × Int) (X0 : Nat → Int32) (a0 : Nat) (a1 : Int32) (a2 : Int32) (ha0 : eT E a0 ∈ [24]) (hX0 : okR X0) : TcI E yX7_reach cX7_reach 3 .int ({ frames := 3, cells := 0, slots := 0, locals := 86 }) [.ref a0, .int a1, .int a2] (fun H => TH E (tbM (mD (.inl tp) (.inl sp) (.inl nu) (.inl un) (.inl tk) (.inl xt) (.inl wrb) (.inl nab) (.inl iwb)) (xD 660 X0) ws kp as rd sc ty ik) H) (fun v H => ((-2147483648) ≤ v.toInt ∧ v.toInt ≤ 2147483647) ∧ (v.toInt = jReach (gI X0 0) (zD X0) (zK X0) (zQ X0) a1.toInt a2.toInt) ∧ TH E (tbM (mD (.inl tp) (.inl sp) (.inl nu) (.inl un) (.inl tk) (.inl xt) (.inl wrb) (.inl nab) (.inl iwb)) (xD 660 X0) ws kp as rd sc ty ik) H) := by
  refine teI (by decide) (Nat.le_of_ble_eq_true rfl) ?_
  intro p_ ev_ s mi_ below_ meth cd_ ls F hK hN hO hH hS hl
  have hH : TH E (tbM (mD (.inl tp) (.inl sp) (.inl nu) (.inl un) (.inl tk) (.inl xt) (.inl wrb) (.inl nab) (.inl iwb)) (xD 660 X0) ws kp as rd sc ty ik) s.heap := hH
  have hl : lv_has ls 3 [(0, .ref a0), (1, .int a1), (2, .int a2)] := hl
  have hBX0 := okB hX0.1
  have hLX0 := hX0.2
  refine lv_aload_n F.1 F.2.1 dX7_reach_0 rfl (lv_at hl 0 rfl) ?_
  refine lv_iload_n F.1 F.2.1 dX7_reach_1 rfl (lv_at hl 1 rfl) ?_
  refine tVi (b := a0) (As := [.int a1]) (rest := []) F hK hN hO (c_X7_isReach_x E ws kp as rd sc ty ik un tk xt tp sp wrb nu nab iwb X0 a0 a1 ha0 ((hX0).1)) mv_X7_isReach wd_37_8 ⟨Nat.le_of_ble_eq_true rfl, Nat.le_of_ble_eq_true rfl⟩ ⟨Nat.le_of_ble_eq_true rfl, Nat.le_of_ble_eq_true rfl⟩ hH hS (tRecv hK hH (tyb ha0 (all1 rfl)) clX7) rfl hl.1 (Nat.le_of_ble_eq_true rfl) dX7_reach_2 (fun z_1 H locs hq hS => ?_)
  obtain ⟨f_2, f_3, f_4, hH⟩ := hq
  have hH : TH E (tbM (mD (.inl tp) (.inl sp) (.inl nu) (.inl un) (.inl tk) (.inl xt) (.inl wrb) (.inl nab) (.inl iwb)) (xD 660 X0) ws kp as rd sc ty ik) H := hH
  refine z_ne (tgt := 10) F dX7_reach_5 (by decide) (fun c_5 => ?_) (fun c_5 => ?_)
  · skip
    have r_6 : 1 ≤ z_1.toInt ∧ z_1.toInt ≤ 1 := by have h9_ := f_2; omega
    have r_7 : 0 ≤ a1.toInt ∧ a1.toInt ≤ 11 := by have h9_ := (i32b a1); omega
    refine lv_iload_n F.1 F.2.1 dX7_reach_10 rfl (lv_at hl 2 rfl) ?_
    rcases (by omega : (a2.toInt < 0 ∨ 13 < a2.toInt) ∨ a2.toInt = 0 ∨ a2.toInt = 1 ∨ a2.toInt = 2 ∨ a2.toInt = 3 ∨ a2.toInt = 4 ∨ a2.toInt = 5 ∨ a2.toInt = 6 ∨ a2.toInt = 7 ∨ a2.toInt = 8 ∨ a2.toInt = 9 ∨ a2.toInt = 10 ∨ a2.toInt = 11 ∨ a2.toInt = 12 ∨ a2.toInt = 13) with w_9 | w_9 | w_9 | w_9 | w_9 | w_9 | w_9 | w_9 | w_9 | w_9 | w_9 | w_9 | w_9 | w_9 | w_9
    · skip
      refine tTabOut (tgt := 133) F dX7_reach_11 w_9 (by decide) ?_
      refine lv_iconst (v := (-1)) F.1 F.2.1 dX7_reach_133 (by decide) ?_
      refine topK (a := (-1)) (by decide) (fun k_10 hk_10 => ?_)
      exact txI F hS dX7_reach_134 rfl (⟨(wkb (eqb hk_10) rfl rfl), (jr_d (by omega) (by omega) (by omega)), hH⟩)
    · skip
      refine tTabIn (off := 69) (tgt := 80) F dX7_reach_11 w_9 (by decide) (by decide) (by decide +kernel) (by decide) ?_
      refine lv_aload_n F.1 F.2.1 dX7_reach_80 rfl (lv_at hl 0 rfl) ?_
      refine lv_iload_n F.1 F.2.1 dX7_reach_81 rfl (lv_at hl 1 rfl) ?_
      refine lv_iconst (v := 0) F.1 F.2.1 dX7_reach_82 (by decide) ?_
      refine topK (a := 0) (by decide) (fun k_11 hk_11 => ?_)
      refine tVi (b := a0) (As := [.int a1, .int k_11]) (rest := []) F hK hN hO (c_X7_ofReach_x E ws kp as rd sc ty ik un tk xt tp sp wrb nu nab iwb X0 a0 a1 k_11 ha0 r_7 (wkb (eqb hk_11) rfl rfl) ((hX0).1)) mv_X7_ofReach wd_28_15 ⟨Nat.le_of_ble_eq_true rfl, Nat.le_of_ble_eq_true rfl⟩ ⟨Nat.le_of_ble_eq_true rfl, Nat.le_of_ble_eq_true rfl⟩ hH hS (tRecv hK hH (tyb ha0 (all1 rfl)) clX7) rfl hl.1 (Nat.le_of_ble_eq_true rfl) dX7_reach_83 (fun z_12 H locs hq hS => ?_)
      obtain ⟨f_13, f_14, hH⟩ := hq
      have hH : TH E (tbM (mD (.inl tp) (.inl sp) (.inl nu) (.inl un) (.inl tk) (.inl xt) (.inl wrb) (.inl nab) (.inl iwb)) (xD 660 X0) ws kp as rd sc ty ik) H := hH
      refine lv_iconst (v := (-1)) F.1 F.2.1 dX7_reach_86 (by decide) ?_
      refine topK (a := (-1)) (by decide) (fun k_15 hk_15 => ?_)
      refine b_ne (tgt := 95) F dX7_reach_87 (by decide) (fun c_16 => ?_) (fun c_16 => ?_)
      · skip
        refine lv_aload_n F.1 F.2.1 dX7_reach_95 rfl (lv_at hl 0 rfl) ?_
        refine lv_iload_n F.1 F.2.1 dX7_reach_96 rfl (lv_at hl 1 rfl) ?_
        refine lv_iconst (v := 0) F.1 F.2.1 dX7_reach_97 (by decide) ?_
        refine topK (a := 0) (by decide) (fun k_18 hk_18 => ?_)
        refine tVi (b := a0) (As := [.int a1, .int k_18]) (rest := []) F hK hN hO (c_X7_ofReach_x E ws kp as rd sc ty ik un tk xt tp sp wrb nu nab iwb X0 a0 a1 k_18 ha0 r_7 (wkb (eqb hk_18) rfl rfl) ((hX0).1)) mv_X7_ofReach wd_28_15 ⟨Nat.le_of_ble_eq_true rfl, Nat.le_of_ble_eq_true rfl⟩ ⟨Nat.le_of_ble_eq_true rfl, Nat.le_of_ble_eq_true rfl⟩ hH hS (tRecv hK hH (tyb ha0 (all1 rfl)) clX7) rfl hl.1 (Nat.le_of_ble_eq_true rfl) dX7_reach_98 (fun z_19 H locs hq hS => ?_)
        obtain ⟨f_20, f_21, hH⟩ := hq
        have hH : TH E (tbM (mD (.inl tp) (.inl sp) (.inl nu) (.inl un) (.inl tk) (.inl xt) (.inl wrb) (.inl nab) (.inl iwb)) (xD 660 X0) ws kp as rd sc ty ik) H := hH
        exact txI F hS dX7_reach_101 rfl (⟨f_20, (jr_0 (by omega) (by omega) (zD_v2 f_14 (by omega) (by omega) f_21 (by omega) (by omega))), hH⟩)
      · skip
        have r_17 : (-1) ≤ z_12.toInt ∧ z_12.toInt ≤ (-1) := by have h9_ := f_13; omega
        refine lv_bipush (v := (-2)) F.1 F.2.1 dX7_reach_90 (by decide) ?_
        refine topK (a := (-2)) (by decide) (fun k_22 hk_22 => ?_)
        refine lv_goto (tgt := 101) F.1 F.2.1 dX7_reach_92 (by decide) ?_
        exact txI F hS dX7_reach_101 rfl (⟨(wkb (eqb hk_22) rfl rfl), (jr_0 (by omega) (by omega) (zD_v f_14 (by omega) (by omega) (by omega))), hH⟩)
    · skip
      refine tTabIn (off := 91) (tgt := 102) F dX7_reach_11 w_9 (by decide) (by decide) (by decide +kernel) (by decide) ?_
      refine lv_aload_n F.1 F.2.1 dX7_reach_102 rfl (lv_at hl 0 rfl) ?_
      refine lv_iload_n F.1 F.2.1 dX7_reach_103 rfl (lv_at hl 1 rfl) ?_
      refine lv_iconst (v := 1) F.1 F.2.1 dX7_reach_104 (by decide) ?_
      refine topK (a := 1) (by decide) (fun k_23 hk_23 => ?_)
      refine tVi (b := a0) (As := [.int a1, .int k_23]) (rest := []) F hK hN hO (c_X7_ofReach_x E ws kp as rd sc ty ik un tk xt tp sp wrb nu nab iwb X0 a0 a1 k_23 ha0 r_7 (wkb (eqb hk_23) rfl rfl) ((hX0).1)) mv_X7_ofReach wd_28_15 ⟨Nat.le_of_ble_eq_true rfl, Nat.le_of_ble_eq_true rfl⟩ ⟨Nat.le_of_ble_eq_true rfl, Nat.le_of_ble_eq_true rfl⟩ hH hS (tRecv hK hH (tyb ha0 (all1 rfl)) clX7) rfl hl.1 (Nat.le_of_ble_eq_true rfl) dX7_reach_105 (fun z_24 H locs hq hS => ?_)
      obtain ⟨f_25, f_26, hH⟩ := hq
      have hH : TH E (tbM (mD (.inl tp) (.inl sp) (.inl nu) (.inl un) (.inl tk) (.inl xt) (.inl wrb) (.inl nab) (.inl iwb)) (xD 660 X0) ws kp as rd sc ty ik) H := hH
      exact txI F hS dX7_reach_108 rfl (⟨f_25, (jr_1 (by omega) (by omega) (zK_v f_26 (by omega) (by omega))), hH⟩)
    · skip
      refine tTabIn (off := 98) (tgt := 109) F dX7_reach_11 w_9 (by decide) (by decide) (by decide +kernel) (by decide) ?_
      refine lv_aload_n F.1 F.2.1 dX7_reach_109 rfl (lv_at hl 0 rfl) ?_
      refine lv_iload_n F.1 F.2.1 dX7_reach_110 rfl (lv_at hl 1 rfl) ?_
      refine tVi (b := a0) (As := [.int a1]) (rest := []) F hK hN hO (c_X7_runningTo_x E ws kp as rd sc ty ik un tk xt tp sp wrb nu nab iwb X0 a0 a1 ha0 r_7 hX0) mv_X7_runningTo wd_40_12 ⟨Nat.le_of_ble_eq_true rfl, Nat.le_of_ble_eq_true rfl⟩ ⟨Nat.le_of_ble_eq_true rfl, Nat.le_of_ble_eq_true rfl⟩ hH hS (tRecv hK hH (tyb ha0 (all1 rfl)) clX7) rfl hl.1 (Nat.le_of_ble_eq_true rfl) dX7_reach_111 (fun z_27 H locs hq hS => ?_)
      obtain ⟨f_28, f_29, hH⟩ := hq
      have hH : TH E (tbM (mD (.inl tp) (.inl sp) (.inl nu) (.inl un) (.inl tk) (.inl xt) (.inl wrb) (.inl nab) (.inl iwb)) (xD 660 X0) ws kp as rd sc ty ik) H := hH
      exact txI F hS dX7_reach_114 rfl (⟨f_28, (jr_2 (by omega) (by omega) f_29), hH⟩)
    · skip
      refine tTabIn (off := 104) (tgt := 115) F dX7_reach_11 w_9 (by decide) (by decide) (by decide +kernel) (by decide) ?_
      refine lv_aload_n F.1 F.2.1 dX7_reach_115 rfl (lv_at hl 0 rfl) ?_
      refine lv_iload_n F.1 F.2.1 dX7_reach_116 rfl (lv_at hl 1 rfl) ?_
      refine tVi (b := a0) (As := [.int a1]) (rest := []) F hK hN hO (c_X7_farOf_x E ws kp as rd sc ty ik un tk xt tp sp wrb nu nab iwb X0 a0 a1 ha0 r_7 hX0 (by omega)) mv_X7_farOf wd_40_16 ⟨Nat.le_of_ble_eq_true rfl, Nat.le_of_ble_eq_true rfl⟩ ⟨Nat.le_of_ble_eq_true rfl, Nat.le_of_ble_eq_true rfl⟩ hH hS (tRecv hK hH (tyb ha0 (all1 rfl)) clX7) rfl hl.1 (Nat.le_of_ble_eq_true rfl) dX7_reach_117 (fun z_30 H locs hq hS => ?_)
      obtain ⟨f_31, f_32, hH⟩ := hq
      have hH : TH E (tbM (mD (.inl tp) (.inl sp) (.inl nu) (.inl un) (.inl tk) (.inl xt) (.inl wrb) (.inl nab) (.inl iwb)) (xD 660 X0) ws kp as rd sc ty ik) H := hH
      exact txI F hS dX7_reach_120 rfl (⟨f_31, (jr_3 (by omega) (by omega) f_32), hH⟩)
    · skip
      refine tTabIn (off := 122) (tgt := 133) F dX7_reach_11 w_9 (by decide) (by decide) (by decide +kernel) (by decide) ?_
      refine lv_iconst (v := (-1)) F.1 F.2.1 dX7_reach_133 (by decide) ?_
      refine topK (a := (-1)) (by decide) (fun k_33 hk_33 => ?_)
      exact txI F hS dX7_reach_134 rfl (⟨(wkb (eqb hk_33) rfl rfl), (jr_d (by omega) (by omega) (by omega)), hH⟩)
    · skip
      refine tTabIn (off := 122) (tgt := 133) F dX7_reach_11 w_9 (by decide) (by decide) (by decide +kernel) (by decide) ?_
      refine lv_iconst (v := (-1)) F.1 F.2.1 dX7_reach_133 (by decide) ?_
      refine topK (a := (-1)) (by decide) (fun k_34 hk_34 => ?_)
      exact txI F hS dX7_reach_134 rfl (⟨(wkb (eqb hk_34) rfl rfl), (jr_d (by omega) (by omega) (by omega)), hH⟩)
    · skip
      refine tTabIn (off := 122) (tgt := 133) F dX7_reach_11 w_9 (by decide) (by decide) (by decide +kernel) (by decide) ?_
      refine lv_iconst (v := (-1)) F.1 F.2.1 dX7_reach_133 (by decide) ?_
      refine topK (a := (-1)) (by decide) (fun k_35 hk_35 => ?_)
      exact txI F hS dX7_reach_134 rfl (⟨(wkb (eqb hk_35) rfl rfl), (jr_d (by omega) (by omega) (by omega)), hH⟩)
    · skip
      refine tTabIn (off := 122) (tgt := 133) F dX7_reach_11 w_9 (by decide) (by decide) (by decide +kernel) (by decide) ?_
      refine lv_iconst (v := (-1)) F.1 F.2.1 dX7_reach_133 (by decide) ?_
      refine topK (a := (-1)) (by decide) (fun k_36 hk_36 => ?_)
      exact txI F hS dX7_reach_134 rfl (⟨(wkb (eqb hk_36) rfl rfl), (jr_d (by omega) (by omega) (by omega)), hH⟩)
    · skip
      refine tTabIn (off := 122) (tgt := 133) F dX7_reach_11 w_9 (by decide) (by decide) (by decide +kernel) (by decide) ?_
      refine lv_iconst (v := (-1)) F.1 F.2.1 dX7_reach_133 (by decide) ?_
      refine topK (a := (-1)) (by decide) (fun k_37 hk_37 => ?_)
      exact txI F hS dX7_reach_134 rfl (⟨(wkb (eqb hk_37) rfl rfl), (jr_d (by omega) (by omega) (by omega)), hH⟩)
    · skip
      refine tTabIn (off := 122) (tgt := 133) F dX7_reach_11 w_9 (by decide) (by decide) (by decide +kernel) (by decide) ?_
      refine lv_iconst (v := (-1)) F.1 F.2.1 dX7_reach_133 (by decide) ?_
      refine topK (a := (-1)) (by decide) (fun k_38 hk_38 => ?_)
      exact txI F hS dX7_reach_134 rfl (⟨(wkb (eqb hk_38) rfl rfl), (jr_d (by omega) (by omega) (by omega)), hH⟩)
    · skip
      refine tTabIn (off := 110) (tgt := 121) F dX7_reach_11 w_9 (by decide) (by decide) (by decide +kernel) (by decide) ?_
      refine lv_aload_n F.1 F.2.1 dX7_reach_121 rfl (lv_at hl 0 rfl) ?_
      refine lv_iload_n F.1 F.2.1 dX7_reach_122 rfl (lv_at hl 1 rfl) ?_
      refine lv_iconst (v := 2) F.1 F.2.1 dX7_reach_123 (by decide) ?_
      refine topK (a := 2) (by decide) (fun k_39 hk_39 => ?_)
      refine lv_iload_n F.1 F.2.1 dX7_reach_124 rfl (lv_at hl 2 rfl) ?_
      refine tAdd (lo := 12) (hi := 12) F dX7_reach_125 (eqb hk_39) (eqb w_9) rfl (fun z_40 hz_40 => ?_)
      refine lv_bipush (v := 10) F.1 F.2.1 dX7_reach_126 (by decide) ?_
      refine topK (a := 10) (by decide) (fun k_41 hk_41 => ?_)
      refine tSub (lo := 2) (hi := 2) F dX7_reach_128 hz_40.2 (eqb hk_41) rfl (fun z_42 hz_42 => ?_)
      refine tVi (b := a0) (As := [.int a1, .int z_42]) (rest := []) F hK hN hO (c_X7_ofReach_x E ws kp as rd sc ty ik un tk xt tp sp wrb nu nab iwb X0 a0 a1 z_42 ha0 r_7 (wkb hz_42.2 rfl rfl) ((hX0).1)) mv_X7_ofReach wd_28_15 ⟨Nat.le_of_ble_eq_true rfl, Nat.le_of_ble_eq_true rfl⟩ ⟨Nat.le_of_ble_eq_true rfl, Nat.le_of_ble_eq_true rfl⟩ hH hS (tRecv hK hH (tyb ha0 (all1 rfl)) clX7) rfl hl.1 (Nat.le_of_ble_eq_true rfl) dX7_reach_129 (fun z_43 H locs hq hS => ?_)
      obtain ⟨f_44, f_45, hH⟩ := hq
      have hH : TH E (tbM (mD (.inl tp) (.inl sp) (.inl nu) (.inl un) (.inl tk) (.inl xt) (.inl wrb) (.inl nab) (.inl iwb)) (xD 660 X0) ws kp as rd sc ty ik) H := hH
      exact txI F hS dX7_reach_132 rfl (⟨f_44, (jr_q (by omega) (by omega) (zQ_v f_45 (by omega) (by omega) (by omega)) rfl), hH⟩)
    · skip
      refine tTabIn (off := 110) (tgt := 121) F dX7_reach_11 w_9 (by decide) (by decide) (by decide +kernel) (by decide) ?_
      refine lv_aload_n F.1 F.2.1 dX7_reach_121 rfl (lv_at hl 0 rfl) ?_
      refine lv_iload_n F.1 F.2.1 dX7_reach_122 rfl (lv_at hl 1 rfl) ?_
      refine lv_iconst (v := 2) F.1 F.2.1 dX7_reach_123 (by decide) ?_
      refine topK (a := 2) (by decide) (fun k_46 hk_46 => ?_)
      refine lv_iload_n F.1 F.2.1 dX7_reach_124 rfl (lv_at hl 2 rfl) ?_
      refine tAdd (lo := 13) (hi := 13) F dX7_reach_125 (eqb hk_46) (eqb w_9) rfl (fun z_47 hz_47 => ?_)
      refine lv_bipush (v := 10) F.1 F.2.1 dX7_reach_126 (by decide) ?_
      refine topK (a := 10) (by decide) (fun k_48 hk_48 => ?_)
      refine tSub (lo := 3) (hi := 3) F dX7_reach_128 hz_47.2 (eqb hk_48) rfl (fun z_49 hz_49 => ?_)
      refine tVi (b := a0) (As := [.int a1, .int z_49]) (rest := []) F hK hN hO (c_X7_ofReach_x E ws kp as rd sc ty ik un tk xt tp sp wrb nu nab iwb X0 a0 a1 z_49 ha0 r_7 (wkb hz_49.2 rfl rfl) ((hX0).1)) mv_X7_ofReach wd_28_15 ⟨Nat.le_of_ble_eq_true rfl, Nat.le_of_ble_eq_true rfl⟩ ⟨Nat.le_of_ble_eq_true rfl, Nat.le_of_ble_eq_true rfl⟩ hH hS (tRecv hK hH (tyb ha0 (all1 rfl)) clX7) rfl hl.1 (Nat.le_of_ble_eq_true rfl) dX7_reach_129 (fun z_50 H locs hq hS => ?_)
      obtain ⟨f_51, f_52, hH⟩ := hq
      have hH : TH E (tbM (mD (.inl tp) (.inl sp) (.inl nu) (.inl un) (.inl tk) (.inl xt) (.inl wrb) (.inl nab) (.inl iwb)) (xD 660 X0) ws kp as rd sc ty ik) H := hH
      exact txI F hS dX7_reach_132 rfl (⟨f_51, (jr_q (by omega) (by omega) (zQ_v f_52 (by omega) (by omega) (by omega)) rfl), hH⟩)
    · skip
      refine tTabIn (off := 110) (tgt := 121) F dX7_reach_11 w_9 (by decide) (by decide) (by decide +kernel) (by decide) ?_
      refine lv_aload_n F.1 F.2.1 dX7_reach_121 rfl (lv_at hl 0 rfl) ?_
      refine lv_iload_n F.1 F.2.1 dX7_reach_122 rfl (lv_at hl 1 rfl) ?_
      refine lv_iconst (v := 2) F.1 F.2.1 dX7_reach_123 (by decide) ?_
      refine topK (a := 2) (by decide) (fun k_53 hk_53 => ?_)
      refine lv_iload_n F.1 F.2.1 dX7_reach_124 rfl (lv_at hl 2 rfl) ?_
      refine tAdd (lo := 14) (hi := 14) F dX7_reach_125 (eqb hk_53) (eqb w_9) rfl (fun z_54 hz_54 => ?_)
      refine lv_bipush (v := 10) F.1 F.2.1 dX7_reach_126 (by decide) ?_
      refine topK (a := 10) (by decide) (fun k_55 hk_55 => ?_)
      refine tSub (lo := 4) (hi := 4) F dX7_reach_128 hz_54.2 (eqb hk_55) rfl (fun z_56 hz_56 => ?_)
      refine tVi (b := a0) (As := [.int a1, .int z_56]) (rest := []) F hK hN hO (c_X7_ofReach_x E ws kp as rd sc ty ik un tk xt tp sp wrb nu nab iwb X0 a0 a1 z_56 ha0 r_7 (wkb hz_56.2 rfl rfl) ((hX0).1)) mv_X7_ofReach wd_28_15 ⟨Nat.le_of_ble_eq_true rfl, Nat.le_of_ble_eq_true rfl⟩ ⟨Nat.le_of_ble_eq_true rfl, Nat.le_of_ble_eq_true rfl⟩ hH hS (tRecv hK hH (tyb ha0 (all1 rfl)) clX7) rfl hl.1 (Nat.le_of_ble_eq_true rfl) dX7_reach_129 (fun z_57 H locs hq hS => ?_)
      obtain ⟨f_58, f_59, hH⟩ := hq
      have hH : TH E (tbM (mD (.inl tp) (.inl sp) (.inl nu) (.inl un) (.inl tk) (.inl xt) (.inl wrb) (.inl nab) (.inl iwb)) (xD 660 X0) ws kp as rd sc ty ik) H := hH
      exact txI F hS dX7_reach_132 rfl (⟨f_58, (jr_q (by omega) (by omega) (zQ_v f_59 (by omega) (by omega) (by omega)) rfl), hH⟩)
    · skip
      refine tTabIn (off := 110) (tgt := 121) F dX7_reach_11 w_9 (by decide) (by decide) (by decide +kernel) (by decide) ?_
      refine lv_aload_n F.1 F.2.1 dX7_reach_121 rfl (lv_at hl 0 rfl) ?_
      refine lv_iload_n F.1 F.2.1 dX7_reach_122 rfl (lv_at hl 1 rfl) ?_
      refine lv_iconst (v := 2) F.1 F.2.1 dX7_reach_123 (by decide) ?_
      refine topK (a := 2) (by decide) (fun k_60 hk_60 => ?_)
      refine lv_iload_n F.1 F.2.1 dX7_reach_124 rfl (lv_at hl 2 rfl) ?_
      refine tAdd (lo := 15) (hi := 15) F dX7_reach_125 (eqb hk_60) (eqb w_9) rfl (fun z_61 hz_61 => ?_)
      refine lv_bipush (v := 10) F.1 F.2.1 dX7_reach_126 (by decide) ?_
      refine topK (a := 10) (by decide) (fun k_62 hk_62 => ?_)
      refine tSub (lo := 5) (hi := 5) F dX7_reach_128 hz_61.2 (eqb hk_62) rfl (fun z_63 hz_63 => ?_)
      refine tVi (b := a0) (As := [.int a1, .int z_63]) (rest := []) F hK hN hO (c_X7_ofReach_x E ws kp as rd sc ty ik un tk xt tp sp wrb nu nab iwb X0 a0 a1 z_63 ha0 r_7 (wkb hz_63.2 rfl rfl) ((hX0).1)) mv_X7_ofReach wd_28_15 ⟨Nat.le_of_ble_eq_true rfl, Nat.le_of_ble_eq_true rfl⟩ ⟨Nat.le_of_ble_eq_true rfl, Nat.le_of_ble_eq_true rfl⟩ hH hS (tRecv hK hH (tyb ha0 (all1 rfl)) clX7) rfl hl.1 (Nat.le_of_ble_eq_true rfl) dX7_reach_129 (fun z_64 H locs hq hS => ?_)
      obtain ⟨f_65, f_66, hH⟩ := hq
      have hH : TH E (tbM (mD (.inl tp) (.inl sp) (.inl nu) (.inl un) (.inl tk) (.inl xt) (.inl wrb) (.inl nab) (.inl iwb)) (xD 660 X0) ws kp as rd sc ty ik) H := hH
      exact txI F hS dX7_reach_132 rfl (⟨f_65, (jr_q (by omega) (by omega) (zQ_v f_66 (by omega) (by omega) (by omega)) rfl), hH⟩)
  · skip
    have r_8 : 0 ≤ z_1.toInt ∧ z_1.toInt ≤ 0 := by have h9_ := f_2; omega
    refine lv_iconst (v := (-1)) F.1 F.2.1 dX7_reach_8 (by decide) ?_
    refine topK (a := (-1)) (by decide) (fun k_67 hk_67 => ?_)
    exact txI F hS dX7_reach_9 rfl (⟨(wkb (eqb hk_67) rfl rfl), (jr_no (by omega) (by omega)), hH⟩)
set_option maxHeartbeats 4000000 in
set_option maxRecDepth 100000 in
theorem c_X7_above_x (E : Ev) (ws : TD) (kp : TD) (as : TD) (rd : TD) (sc : TD) (ty : TD) (ik : TD) (un : Int × Int) (tk : Int × Int) (xt : Int × Int) (tp : Int × Int) (sp : Int × Int) (wrb : Int × Int) (nu : Int × Int) (nab : Int × Int) (iwb : Int × Int) (X0 : Nat → Int32) (a0 : Nat) (a1 : Int32) (ha0 : eT E a0 ∈ [24]) (hX0 : okR X0) : TcI E yX7_above cX7_above 4 .int ({ frames := 3, cells := 0, slots := 0, locals := 86 }) [.ref a0, .int a1] (fun H => TH E (tbM (mD (.inl tp) (.inl sp) (.inl nu) (.inl un) (.inl tk) (.inl xt) (.inl wrb) (.inl nab) (.inl iwb)) (xD 660 X0) ws kp as rd sc ty ik) H) (fun v H => ((-2147483648) ≤ v.toInt ∧ v.toInt ≤ 2147483647) ∧ (v.toInt = (jAbove (gI X0 0) (zD X0) a1.toInt).toInt) ∧ TH E (tbM (mD (.inl tp) (.inl sp) (.inl nu) (.inl un) (.inl tk) (.inl xt) (.inl wrb) (.inl nab) (.inl iwb)) (xD 660 X0) ws kp as rd sc ty ik) H) := by
  refine teI (by decide) (Nat.le_of_ble_eq_true rfl) ?_
  intro p_ ev_ s mi_ below_ meth cd_ ls F hK hN hO hH hS hl
  have hH : TH E (tbM (mD (.inl tp) (.inl sp) (.inl nu) (.inl un) (.inl tk) (.inl xt) (.inl wrb) (.inl nab) (.inl iwb)) (xD 660 X0) ws kp as rd sc ty ik) s.heap := hH
  have hl : lv_has ls 4 [(0, .ref a0), (1, .int a1)] := hl
  have hBX0 := okB hX0.1
  have hLX0 := hX0.2
  refine lv_aload_n F.1 F.2.1 dX7_above_0 rfl (lv_at hl 0 rfl) ?_
  refine lv_iload_n F.1 F.2.1 dX7_above_1 rfl (lv_at hl 1 rfl) ?_
  refine tVi (b := a0) (As := [.int a1]) (rest := []) F hK hN hO (c_X7_isReach_x E ws kp as rd sc ty ik un tk xt tp sp wrb nu nab iwb X0 a0 a1 ha0 ((hX0).1)) mv_X7_isReach wd_37_8 ⟨Nat.le_of_ble_eq_true rfl, Nat.le_of_ble_eq_true rfl⟩ ⟨Nat.le_of_ble_eq_true rfl, Nat.le_of_ble_eq_true rfl⟩ hH hS (tRecv hK hH (tyb ha0 (all1 rfl)) clX7) rfl hl.1 (Nat.le_of_ble_eq_true rfl) dX7_above_2 (fun z_1 H locs hq hS => ?_)
  obtain ⟨f_2, f_3, f_4, hH⟩ := hq
  have hH : TH E (tbM (mD (.inl tp) (.inl sp) (.inl nu) (.inl un) (.inl tk) (.inl xt) (.inl wrb) (.inl nab) (.inl iwb)) (xD 660 X0) ws kp as rd sc ty ik) H := hH
  refine z_ne (tgt := 10) F dX7_above_5 (by decide) (fun c_5 => ?_) (fun c_5 => ?_)
  · skip
    have r_6 : 1 ≤ z_1.toInt ∧ z_1.toInt ≤ 1 := by have h9_ := f_2; omega
    have r_7 : 0 ≤ a1.toInt ∧ a1.toInt ≤ 11 := by have h9_ := (i32b a1); omega
    refine lv_iconst (v := 0) F.1 F.2.1 dX7_above_10 (by decide) ?_
    refine topK (a := 0) (by decide) (fun k_9 hk_9 => ?_)
    refine lv_istore_n (lv' := [(2, .int k_9), (0, .ref a0), (1, .int a1)]) F.1 F.2.1 dX7_above_11 rfl hl (by decide) rfl (fun ls hl => ?_)
    refine lv_iconst (v := 0) F.1 F.2.1 dX7_above_12 (by decide) ?_
    refine topK (a := 0) (by decide) (fun k_10 hk_10 => ?_)
    refine lv_istore_n (lv' := [(3, .int k_10), (2, .int k_9), (0, .ref a0), (1, .int a1)]) F.1 F.2.1 dX7_above_13 rfl hl (by decide) rfl (fun ls hl => ?_)
    refine wloop (σ := Int32 × Int32) (fun n9 x9 H locs ls => (12 - x9.2.toInt + 1).toNat < n9 ∧ (0 ≤ x9.2.toInt ∧ x9.2.toInt ≤ 12) ∧ (x9.1 = jAb (zD X0) a1.toInt (x9.2.toInt).toNat) ∧ (x9.2.toInt ≤ gI X0 0) ∧ TH E (tbM (mD (.inl tp) (.inl sp) (.inl nu) (.inl un) (.inl tk) (.inl xt) (.inl wrb) (.inl nab) (.inl iwb)) (xD 660 X0) ws kp as rd sc ty ik) H ∧ va_S (eA E s.heap.size) s.heap H locs ∧ lv_has ls 4 [(0, .ref a0), (1, .int a1), (2, .int x9.1), (3, .int x9.2)]) ?_ (fun x9 H locs ls h => absurd h.1 (Nat.not_lt_zero _)) _ (k_9, k_10) ⟨Nat.lt_succ_self _, (wkb (eqb hk_10) rfl rfl), (show k_9 = jAb (zD X0) a1.toInt (k_10.toInt).toNat from (ab_0 (by omega) (by omega))), (show k_10.toInt ≤ gI X0 0 from by omega), hH, hS, lv_sub hl [2, 3, 1, 0] rfl⟩
    intro n_14 ih_14 ⟨u_11, u_12⟩ H locs ls ⟨hm_14, hu_12, hcr14_0, hcr14_1, hH, hS, hl⟩
    have hm_14 : (12 - u_12.toInt + 1).toNat < n_14 + 1 := hm_14
    have hu_12 : (0 ≤ u_12.toInt ∧ u_12.toInt ≤ 12) := hu_12
    have hcr14_0 : (u_11 = jAb (zD X0) a1.toInt (u_12.toInt).toNat) := hcr14_0
    have hcr14_1 : (u_12.toInt ≤ gI X0 0) := hcr14_1
    have hH : TH E (tbM (mD (.inl tp) (.inl sp) (.inl nu) (.inl un) (.inl tk) (.inl xt) (.inl wrb) (.inl nab) (.inl iwb)) (xD 660 X0) ws kp as rd sc ty ik) H := hH
    have hl : lv_has ls 4 [(0, .ref a0), (1, .int a1), (2, .int u_11), (3, .int u_12)] := hl
    refine lv_iload_n F.1 F.2.1 dX7_above_14 rfl (lv_at hl 3 rfl) ?_
    refine lv_aload_n F.1 F.2.1 dX7_above_15 rfl (lv_at hl 0 rfl) ?_
    refine tVi (b := a0) (As := []) (rest := [.int u_12]) F hK hN hO (c_X7_reaches E ws kp as rd sc ty ik un tk xt tp sp wrb nu nab iwb X0 a0 ha0 ((hX0).1)) mv_X7_reaches wd_28_7 ⟨Nat.le_of_ble_eq_true rfl, Nat.le_of_ble_eq_true rfl⟩ ⟨Nat.le_of_ble_eq_true rfl, Nat.le_of_ble_eq_true rfl⟩ hH hS (tRecv hK hH (tyb ha0 (all1 rfl)) clX7) rfl hl.1 (Nat.le_of_ble_eq_true rfl) dX7_above_16 (fun z_13 H locs hq hS => ?_)
    obtain ⟨f_14, f_15, hH⟩ := hq
    have hH : TH E (tbM (mD (.inl tp) (.inl sp) (.inl nu) (.inl un) (.inl tk) (.inl xt) (.inl wrb) (.inl nab) (.inl iwb)) (xD 660 X0) ws kp as rd sc ty ik) H := hH
    refine b_ge (tgt := 47) F dX7_above_19 (by decide) (fun c_16 => ?_) (fun c_16 => ?_)
    · skip
      refine lv_iload_n F.1 F.2.1 dX7_above_47 rfl (lv_at hl 2 rfl) ?_
      exact txI F hS dX7_above_48 rfl (⟨(i32b _), (abv_y hcr14_0 (by omega) (by omega)), hH⟩)
    · skip
      have r_17 : 0 ≤ u_12.toInt ∧ u_12.toInt ≤ 11 := by have h9_ := hu_12; omega
      have r_18 : 1 ≤ z_13.toInt ∧ z_13.toInt ≤ 12 := by have h9_ := f_14; omega
      refine lv_iload_n F.1 F.2.1 dX7_above_22 rfl (lv_at hl 2 rfl) ?_
      refine lv_aload_n F.1 F.2.1 dX7_above_23 rfl (lv_at hl 0 rfl) ?_
      refine lv_iload_n F.1 F.2.1 dX7_above_24 rfl (lv_at hl 3 rfl) ?_
      refine lv_iload_n F.1 F.2.1 dX7_above_25 rfl (lv_at hl 1 rfl) ?_
      refine tVi (b := a0) (As := [.int u_12, .int a1]) (rest := [.int u_11]) F hK hN hO (c_X7_runsTo_x E ws kp as rd sc ty ik un tk xt tp sp wrb nu nab iwb X0 a0 u_12 a1 ha0 r_17 r_7 hX0 (by omega)) mv_X7_runsTo wd_29_6 ⟨Nat.le_of_ble_eq_true rfl, Nat.le_of_ble_eq_true rfl⟩ ⟨Nat.le_of_ble_eq_true rfl, Nat.le_of_ble_eq_true rfl⟩ hH hS (tRecv hK hH (tyb ha0 (all1 rfl)) clX7) rfl hl.1 (Nat.le_of_ble_eq_true rfl) dX7_above_26 (fun z_19 H locs hq hS => ?_)
      obtain ⟨f_20, f_21, hH⟩ := hq
      have hH : TH E (tbM (mD (.inl tp) (.inl sp) (.inl nu) (.inl un) (.inl tk) (.inl xt) (.inl wrb) (.inl nab) (.inl iwb)) (xD 660 X0) ws kp as rd sc ty ik) H := hH
      refine z_eq (tgt := 38) F dX7_above_29 (by decide) (fun c_22 => ?_) (fun c_22 => ?_)
      · skip
        have r_23 : 0 ≤ z_19.toInt ∧ z_19.toInt ≤ 0 := by have h9_ := f_20; omega
        refine lv_iconst (v := 0) F.1 F.2.1 dX7_above_38 (by decide) ?_
        refine topK (a := 0) (by decide) (fun k_25 hk_25 => ?_)
        refine lv_ior F.1 F.2.1 dX7_above_39 ?_
        refine topE (fun z_26 xz_26 => ?_)
        refine lv_istore_n (lv' := [(2, .int z_26), (0, .ref a0), (1, .int a1), (3, .int u_12)]) F.1 F.2.1 dX7_above_40 rfl hl (by decide) rfl (fun ls hl => ?_)
        obtain ⟨x_27, ex_27, hx_27⟩ := iincB (c := 1) (lo := 1) (hi := 12) r_17 rfl
        refine lv_iinc (v := x_27) (lv' := [(3, .int x_27), (2, .int z_26), (0, .ref a0), (1, .int a1)]) F.1 F.2.1 dX7_above_41 hl (k := 3) rfl ex_27 (by decide) rfl (fun ls hl => ?_)
        refine lv_goto (tgt := 14) F.1 F.2.1 dX7_above_44 (by decide) ?_
        exact ih_14 (z_26, x_27) _ _ _ ⟨(show (12 - x_27.toInt + 1).toNat < n_14 from by omega), (wkb hx_27.2 rfl rfl), (show z_26 = jAb (zD X0) a1.toInt (x_27.toInt).toNat from (mab_n hcr14_0 (by omega) f_21 (by omega) (by omega) xz_26 (by omega))), (show x_27.toInt ≤ gI X0 0 from by omega), hH, hS, lv_sub hl [2, 3, 1, 0] rfl⟩
      · skip
        have r_24 : 1 ≤ z_19.toInt ∧ z_19.toInt ≤ 1 := by have h9_ := f_20; omega
        refine lv_iconst (v := 1) F.1 F.2.1 dX7_above_32 (by decide) ?_
        refine topK (a := 1) (by decide) (fun k_28 hk_28 => ?_)
        refine lv_iload_n F.1 F.2.1 dX7_above_33 rfl (lv_at hl 3 rfl) ?_
        refine lv_ishl F.1 F.2.1 dX7_above_34 ?_
        refine topE (fun z_29 xz_29 => ?_)
        refine lv_goto (tgt := 39) F.1 F.2.1 dX7_above_35 (by decide) ?_
        refine lv_ior F.1 F.2.1 dX7_above_39 ?_
        refine topE (fun z_30 xz_30 => ?_)
        refine lv_istore_n (lv' := [(2, .int z_30), (0, .ref a0), (1, .int a1), (3, .int u_12)]) F.1 F.2.1 dX7_above_40 rfl hl (by decide) rfl (fun ls hl => ?_)
        obtain ⟨x_31, ex_31, hx_31⟩ := iincB (c := 1) (lo := 1) (hi := 12) r_17 rfl
        refine lv_iinc (v := x_31) (lv' := [(3, .int x_31), (2, .int z_30), (0, .ref a0), (1, .int a1)]) F.1 F.2.1 dX7_above_41 hl (k := 3) rfl ex_31 (by decide) rfl (fun ls hl => ?_)
        refine lv_goto (tgt := 14) F.1 F.2.1 dX7_above_44 (by decide) ?_
        exact ih_14 (z_30, x_31) _ _ _ ⟨(show (12 - x_31.toInt + 1).toNat < n_14 from by omega), (wkb hx_31.2 rfl rfl), (show z_30 = jAb (zD X0) a1.toInt (x_31.toInt).toNat from (ab_y hcr14_0 (by omega) f_21 (by omega) (by omega) (by omega) xz_29 xz_30 (by omega))), (show x_31.toInt ≤ gI X0 0 from by omega), hH, hS, lv_sub hl [2, 3, 1, 0] rfl⟩
  · skip
    have r_8 : 0 ≤ z_1.toInt ∧ z_1.toInt ≤ 0 := by have h9_ := f_2; omega
    refine lv_iconst (v := (-1)) F.1 F.2.1 dX7_above_8 (by decide) ?_
    refine topK (a := (-1)) (by decide) (fun k_32 hk_32 => ?_)
    exact txI F hS dX7_above_9 rfl (⟨(wkb (eqb hk_32) rfl rfl), (abv_n (by omega) (by omega)), hH⟩)
