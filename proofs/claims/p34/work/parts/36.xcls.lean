
set_option maxHeartbeats 4000000 in
set_option maxRecDepth 100000 in
theorem c_X6_copyRow_pd_3_1 (E : Ev) (dA : TD) (dB : TD) (rA : TD) (rB : TD) (rc : TD) (rd : TD) (tp : TD) (ya : TD) (yb : TD) (yc : TD) (yd : TD) (ye : TD) (yf : TD) (rC : TD) (rD : TD) (wd2 : TD) (wd4 : TD) (ws1 : TD) (ws2 : TD) (ws3 : TD) (ws4 : TD) (wi1 : TD) (wi2 : TD) (wi3 : TD) (wi4 : TD) (U : Nat → Int32) (U1 : Nat → Int32) (a0 : Nat) (a1 : Nat) (ha0 : eT E a0 ∈ [39]) (ha1 : eT E a1 ∈ [41]) (hU : ivP 12 (-2) 11 U) (hU1 : ivP 12 (-2) 11 U1) : TcV E yX6_copyRow cX6_copyRow 2 ({ frames := 1, cells := 0, slots := 0, locals := 40 }) [.ref a0, .ref a1] (fun H => TH E (tbC dA dB rA rB rc rd tp ya yb yc yd ye yf rC rD (xD 12 U) wd2 (xD 12 U1) wd4 ws1 ws2 ws3 ws4 wi1 wi2 wi3 wi4) H) (fun H => ∃ U2 : Nat → Int32, (ivP 12 (-2) 11 U2 ∧ ∀ j : Nat, j < 12 → U2 j = U j) ∧ TH E (tbC dA dB rA rB rc rd tp ya yb yc yd ye yf rC rD (xD 12 U) wd2 (xD 12 U2) wd4 ws1 ws2 ws3 ws4 wi1 wi2 wi3 wi4) H) := by
  refine teV (by decide) (Nat.le_of_ble_eq_true rfl) ?_
  intro p_ ev_ s mi_ below_ meth cd_ ls F hK hN hO hH hS hl
  have hH : TH E (tbC dA dB rA rB rc rd tp ya yb yc yd ye yf rC rD (xD 12 U) wd2 (xD 12 U1) wd4 ws1 ws2 ws3 ws4 wi1 wi2 wi3 wi4) s.heap := hH
  have hl : lv_has ls 2 [(0, .ref a0), (1, .ref a1)] := hl
  refine lv_aload_n F.1 F.2.1 dX6_copyRow_0 rfl (lv_at hl 0 rfl) ?_
  refine lv_iconst (v := 0) F.1 F.2.1 dX6_copyRow_1 (by decide) ?_
  refine topK (a := 0) (by decide) (fun k_1 hk_1 => ?_)
  refine lv_aload_n F.1 F.2.1 dX6_copyRow_2 rfl (lv_at hl 1 rfl) ?_
  refine lv_iconst (v := 0) F.1 F.2.1 dX6_copyRow_3 (by decide) ?_
  refine topK (a := 0) (by decide) (fun k_2 hk_2 => ?_)
  refine lv_aload_n F.1 F.2.1 dX6_copyRow_4 rfl (lv_at hl 0 rfl) ?_
  refine tAlen (v := 12) F hK hH (tyb ha0 (all1 rfl)) rfl (by decide) dX6_copyRow_5 ?_
  refine topK (a := 12) (by decide) (fun k_3 hk_3 => ?_)
  refine lv_aload_n F.1 F.2.1 dX6_copyRow_6 rfl (lv_at hl 1 rfl) ?_
  refine tAlen (v := 12) F hK hH (tyb ha1 (all1 rfl)) rfl (by decide) dX6_copyRow_7 ?_
  refine topK (a := 12) (by decide) (fun k_4 hk_4 => ?_)
  refine tMin (lo := 12) (hi := 12) F wd_15_5 wd_9_0 wd_9_1 wd_9_2 hl.1 (Nat.le_of_ble_eq_true rfl) (Nat.le_of_ble_eq_true rfl) (Nat.le_of_ble_eq_true rfl) (Nat.le_of_ble_eq_true rfl) dX6_copyRow_8 (eqb hk_3) (eqb hk_4) rfl (fun z_5 hz_5 => ?_)
  have en_ : z_5 = 12 := swe (by have h9_ := hz_5.2; rw [show ((12 : Int32)).toInt = 12 by decide]; omega)
  have ep_ : k_2 = 0 := swe (by have h9_ := (eqb hk_2); rw [show ((0 : Int32)).toInt = 0 by decide]; omega)
  have eq_ : k_1 = 0 := swe (by have h9_ := (eqb hk_1); rw [show ((0 : Int32)).toInt = 0 by decide]; omega)
  subst en_ ep_ eq_
  obtain ⟨G_6, eG_6⟩ : ∃ N_ : Nat → Int32, N_ = va_cpy U U1 0 0 12 := ⟨_, rfl⟩
  have hG_6 : ivP 12 (-2) 11 G_6 := cpyX_iv hU hU1 eG_6
  refine tCopyG (P0 := fun f => f = U1) (P1 := fun f => f = G_6) (t := 41) (TB1 := (tbC dA dB rA rB rc rd tp ya yb yc yd ye yf rC rD (xD 12 U) wd2 (xD 12 G_6) wd4 ws1 ws2 ws3 ws4 wi1 wi2 wi3 wi4)) F wd_15_6 wd_15_7 wd_15_8 wd_15_9 hK hH hS (tyb ha0 (all1 rfl)) (List.mem_singleton.mp ha1) (by decide) rfl (fun f_ g_ hf_ hg_ => by have h8_ : f_ = U := hf_; have h9_ : g_ = U1 := hg_; show va_cpy f_ g_ 0 0 ((12 : Int32).toNatClampNeg) = _; rw [h8_, h9_, show ((12 : Int32)).toNatClampNeg = 12 by decide]; exact eG_6.symm) rfl (by decide) (by decide) hl.1 (Nat.le_of_ble_eq_true rfl) (Nat.le_of_ble_eq_true rfl) dX6_copyRow_11 (fun H locs hH hS => ?_)
  exact txV F hS dX6_copyRow_14 (⟨G_6, ⟨hG_6, cpyX_at eG_6⟩, hH⟩)
set_option maxHeartbeats 4000000 in
set_option maxRecDepth 100000 in
theorem c_X6_copyRow_ps_3_1 (E : Ev) (dA : TD) (dB : TD) (rA : TD) (rB : TD) (rc : TD) (rd : TD) (tp : TD) (ya : TD) (yb : TD) (yc : TD) (yd : TD) (ye : TD) (yf : TD) (rC : TD) (rD : TD) (wd1 : TD) (wd2 : TD) (wd3 : TD) (wd4 : TD) (ws2 : TD) (ws4 : TD) (wi1 : TD) (wi2 : TD) (wi3 : TD) (wi4 : TD) (U : Nat → Int32) (U1 : Nat → Int32) (a0 : Nat) (a1 : Nat) (ha0 : eT E a0 ∈ [43]) (ha1 : eT E a1 ∈ [45]) (hU : ivP 12 (-2147483648) 2147483647 U) (hU1 : ivP 12 (-2147483648) 2147483647 U1) : TcV E yX6_copyRow cX6_copyRow 2 ({ frames := 1, cells := 0, slots := 0, locals := 40 }) [.ref a0, .ref a1] (fun H => TH E (tbC dA dB rA rB rc rd tp ya yb yc yd ye yf rC rD wd1 wd2 wd3 wd4 (xD 12 U) ws2 (xD 12 U1) ws4 wi1 wi2 wi3 wi4) H) (fun H => ∃ U2 : Nat → Int32, (ivP 12 (-2147483648) 2147483647 U2 ∧ ∀ j : Nat, j < 12 → U2 j = U j) ∧ TH E (tbC dA dB rA rB rc rd tp ya yb yc yd ye yf rC rD wd1 wd2 wd3 wd4 (xD 12 U) ws2 (xD 12 U2) ws4 wi1 wi2 wi3 wi4) H) := by
  refine teV (by decide) (Nat.le_of_ble_eq_true rfl) ?_
  intro p_ ev_ s mi_ below_ meth cd_ ls F hK hN hO hH hS hl
  have hH : TH E (tbC dA dB rA rB rc rd tp ya yb yc yd ye yf rC rD wd1 wd2 wd3 wd4 (xD 12 U) ws2 (xD 12 U1) ws4 wi1 wi2 wi3 wi4) s.heap := hH
  have hl : lv_has ls 2 [(0, .ref a0), (1, .ref a1)] := hl
  refine lv_aload_n F.1 F.2.1 dX6_copyRow_0 rfl (lv_at hl 0 rfl) ?_
  refine lv_iconst (v := 0) F.1 F.2.1 dX6_copyRow_1 (by decide) ?_
  refine topK (a := 0) (by decide) (fun k_1 hk_1 => ?_)
  refine lv_aload_n F.1 F.2.1 dX6_copyRow_2 rfl (lv_at hl 1 rfl) ?_
  refine lv_iconst (v := 0) F.1 F.2.1 dX6_copyRow_3 (by decide) ?_
  refine topK (a := 0) (by decide) (fun k_2 hk_2 => ?_)
  refine lv_aload_n F.1 F.2.1 dX6_copyRow_4 rfl (lv_at hl 0 rfl) ?_
  refine tAlen (v := 12) F hK hH (tyb ha0 (all1 rfl)) rfl (by decide) dX6_copyRow_5 ?_
  refine topK (a := 12) (by decide) (fun k_3 hk_3 => ?_)
  refine lv_aload_n F.1 F.2.1 dX6_copyRow_6 rfl (lv_at hl 1 rfl) ?_
  refine tAlen (v := 12) F hK hH (tyb ha1 (all1 rfl)) rfl (by decide) dX6_copyRow_7 ?_
  refine topK (a := 12) (by decide) (fun k_4 hk_4 => ?_)
  refine tMin (lo := 12) (hi := 12) F wd_15_5 wd_9_0 wd_9_1 wd_9_2 hl.1 (Nat.le_of_ble_eq_true rfl) (Nat.le_of_ble_eq_true rfl) (Nat.le_of_ble_eq_true rfl) (Nat.le_of_ble_eq_true rfl) dX6_copyRow_8 (eqb hk_3) (eqb hk_4) rfl (fun z_5 hz_5 => ?_)
  have en_ : z_5 = 12 := swe (by have h9_ := hz_5.2; rw [show ((12 : Int32)).toInt = 12 by decide]; omega)
  have ep_ : k_2 = 0 := swe (by have h9_ := (eqb hk_2); rw [show ((0 : Int32)).toInt = 0 by decide]; omega)
  have eq_ : k_1 = 0 := swe (by have h9_ := (eqb hk_1); rw [show ((0 : Int32)).toInt = 0 by decide]; omega)
  subst en_ ep_ eq_
  obtain ⟨G_6, eG_6⟩ : ∃ N_ : Nat → Int32, N_ = va_cpy U U1 0 0 12 := ⟨_, rfl⟩
  have hG_6 : ivP 12 (-2147483648) 2147483647 G_6 := cpyX_iv hU hU1 eG_6
  refine tCopyG (P0 := fun f => f = U1) (P1 := fun f => f = G_6) (t := 45) (TB1 := (tbC dA dB rA rB rc rd tp ya yb yc yd ye yf rC rD wd1 wd2 wd3 wd4 (xD 12 U) ws2 (xD 12 G_6) ws4 wi1 wi2 wi3 wi4)) F wd_15_6 wd_15_7 wd_15_8 wd_15_9 hK hH hS (tyb ha0 (all1 rfl)) (List.mem_singleton.mp ha1) (by decide) rfl (fun f_ g_ hf_ hg_ => by have h8_ : f_ = U := hf_; have h9_ : g_ = U1 := hg_; show va_cpy f_ g_ 0 0 ((12 : Int32).toNatClampNeg) = _; rw [h8_, h9_, show ((12 : Int32)).toNatClampNeg = 12 by decide]; exact eG_6.symm) rfl (by decide) (by decide) hl.1 (Nat.le_of_ble_eq_true rfl) (Nat.le_of_ble_eq_true rfl) dX6_copyRow_11 (fun H locs hH hS => ?_)
  exact txV F hS dX6_copyRow_14 (⟨G_6, ⟨hG_6, cpyX_at eG_6⟩, hH⟩)
set_option maxHeartbeats 4000000 in
set_option maxRecDepth 100000 in
theorem c_X6_copyRow_pi_3_1 (E : Ev) (dA : TD) (dB : TD) (rA : TD) (rB : TD) (rc : TD) (rd : TD) (tp : TD) (ya : TD) (yb : TD) (yc : TD) (yd : TD) (ye : TD) (yf : TD) (rC : TD) (rD : TD) (wd1 : TD) (wd2 : TD) (wd3 : TD) (wd4 : TD) (ws1 : TD) (ws2 : TD) (ws3 : TD) (ws4 : TD) (wi2 : TD) (wi4 : TD) (U : Nat → Int32) (U1 : Nat → Int32) (a0 : Nat) (a1 : Nat) (ha0 : eT E a0 ∈ [47]) (ha1 : eT E a1 ∈ [49]) (hU : ivP 48 (-2147483648) 2147483647 U) (hU1 : ivP 48 (-2147483648) 2147483647 U1) : TcV E yX6_copyRow cX6_copyRow 2 ({ frames := 1, cells := 0, slots := 0, locals := 40 }) [.ref a0, .ref a1] (fun H => TH E (tbC dA dB rA rB rc rd tp ya yb yc yd ye yf rC rD wd1 wd2 wd3 wd4 ws1 ws2 ws3 ws4 (xD 48 U) wi2 (xD 48 U1) wi4) H) (fun H => ∃ U2 : Nat → Int32, (ivP 48 (-2147483648) 2147483647 U2 ∧ ∀ j : Nat, j < 48 → U2 j = U j) ∧ TH E (tbC dA dB rA rB rc rd tp ya yb yc yd ye yf rC rD wd1 wd2 wd3 wd4 ws1 ws2 ws3 ws4 (xD 48 U) wi2 (xD 48 U2) wi4) H) := by
  refine teV (by decide) (Nat.le_of_ble_eq_true rfl) ?_
  intro p_ ev_ s mi_ below_ meth cd_ ls F hK hN hO hH hS hl
  have hH : TH E (tbC dA dB rA rB rc rd tp ya yb yc yd ye yf rC rD wd1 wd2 wd3 wd4 ws1 ws2 ws3 ws4 (xD 48 U) wi2 (xD 48 U1) wi4) s.heap := hH
  have hl : lv_has ls 2 [(0, .ref a0), (1, .ref a1)] := hl
  refine lv_aload_n F.1 F.2.1 dX6_copyRow_0 rfl (lv_at hl 0 rfl) ?_
  refine lv_iconst (v := 0) F.1 F.2.1 dX6_copyRow_1 (by decide) ?_
  refine topK (a := 0) (by decide) (fun k_1 hk_1 => ?_)
  refine lv_aload_n F.1 F.2.1 dX6_copyRow_2 rfl (lv_at hl 1 rfl) ?_
  refine lv_iconst (v := 0) F.1 F.2.1 dX6_copyRow_3 (by decide) ?_
  refine topK (a := 0) (by decide) (fun k_2 hk_2 => ?_)
  refine lv_aload_n F.1 F.2.1 dX6_copyRow_4 rfl (lv_at hl 0 rfl) ?_
  refine tAlen (v := 48) F hK hH (tyb ha0 (all1 rfl)) rfl (by decide) dX6_copyRow_5 ?_
  refine topK (a := 48) (by decide) (fun k_3 hk_3 => ?_)
  refine lv_aload_n F.1 F.2.1 dX6_copyRow_6 rfl (lv_at hl 1 rfl) ?_
  refine tAlen (v := 48) F hK hH (tyb ha1 (all1 rfl)) rfl (by decide) dX6_copyRow_7 ?_
  refine topK (a := 48) (by decide) (fun k_4 hk_4 => ?_)
  refine tMin (lo := 48) (hi := 48) F wd_15_5 wd_9_0 wd_9_1 wd_9_2 hl.1 (Nat.le_of_ble_eq_true rfl) (Nat.le_of_ble_eq_true rfl) (Nat.le_of_ble_eq_true rfl) (Nat.le_of_ble_eq_true rfl) dX6_copyRow_8 (eqb hk_3) (eqb hk_4) rfl (fun z_5 hz_5 => ?_)
  have en_ : z_5 = 48 := swe (by have h9_ := hz_5.2; rw [show ((48 : Int32)).toInt = 48 by decide]; omega)
  have ep_ : k_2 = 0 := swe (by have h9_ := (eqb hk_2); rw [show ((0 : Int32)).toInt = 0 by decide]; omega)
  have eq_ : k_1 = 0 := swe (by have h9_ := (eqb hk_1); rw [show ((0 : Int32)).toInt = 0 by decide]; omega)
  subst en_ ep_ eq_
  obtain ⟨G_6, eG_6⟩ : ∃ N_ : Nat → Int32, N_ = va_cpy U U1 0 0 48 := ⟨_, rfl⟩
  have hG_6 : ivP 48 (-2147483648) 2147483647 G_6 := cpyX_iv hU hU1 eG_6
  refine tCopyG (P0 := fun f => f = U1) (P1 := fun f => f = G_6) (t := 49) (TB1 := (tbC dA dB rA rB rc rd tp ya yb yc yd ye yf rC rD wd1 wd2 wd3 wd4 ws1 ws2 ws3 ws4 (xD 48 U) wi2 (xD 48 G_6) wi4)) F wd_15_6 wd_15_7 wd_15_8 wd_15_9 hK hH hS (tyb ha0 (all1 rfl)) (List.mem_singleton.mp ha1) (by decide) rfl (fun f_ g_ hf_ hg_ => by have h8_ : f_ = U := hf_; have h9_ : g_ = U1 := hg_; show va_cpy f_ g_ 0 0 ((48 : Int32).toNatClampNeg) = _; rw [h8_, h9_, show ((48 : Int32)).toNatClampNeg = 48 by decide]; exact eG_6.symm) rfl (by decide) (by decide) hl.1 (Nat.le_of_ble_eq_true rfl) (Nat.le_of_ble_eq_true rfl) dX6_copyRow_11 (fun H locs hH hS => ?_)
  exact txV F hS dX6_copyRow_14 (⟨G_6, ⟨hG_6, cpyX_at eG_6⟩, hH⟩)
set_option maxHeartbeats 4000000 in
set_option maxRecDepth 100000 in
theorem c_X6_copyRow_pd_3_2 (E : Ev) (dA : TD) (dB : TD) (rA : TD) (rB : TD) (rc : TD) (rd : TD) (tp : TD) (ya : TD) (yb : TD) (yc : TD) (yd : TD) (ye : TD) (yf : TD) (rC : TD) (rD : TD) (wd1 : TD) (wd4 : TD) (ws1 : TD) (ws2 : TD) (ws3 : TD) (ws4 : TD) (wi1 : TD) (wi2 : TD) (wi3 : TD) (wi4 : TD) (U : Nat → Int32) (U1 : Nat → Int32) (a0 : Nat) (a1 : Nat) (ha0 : eT E a0 ∈ [40]) (ha1 : eT E a1 ∈ [41]) (hU : ivP 12 (-2) 11 U) (hU1 : ivP 12 (-2) 11 U1) : TcV E yX6_copyRow cX6_copyRow 2 ({ frames := 1, cells := 0, slots := 0, locals := 40 }) [.ref a0, .ref a1] (fun H => TH E (tbC dA dB rA rB rc rd tp ya yb yc yd ye yf rC rD wd1 (xD 12 U) (xD 12 U1) wd4 ws1 ws2 ws3 ws4 wi1 wi2 wi3 wi4) H) (fun H => ∃ U2 : Nat → Int32, (ivP 12 (-2) 11 U2 ∧ ∀ j : Nat, j < 12 → U2 j = U j) ∧ TH E (tbC dA dB rA rB rc rd tp ya yb yc yd ye yf rC rD wd1 (xD 12 U) (xD 12 U2) wd4 ws1 ws2 ws3 ws4 wi1 wi2 wi3 wi4) H) := by
  refine teV (by decide) (Nat.le_of_ble_eq_true rfl) ?_
  intro p_ ev_ s mi_ below_ meth cd_ ls F hK hN hO hH hS hl
  have hH : TH E (tbC dA dB rA rB rc rd tp ya yb yc yd ye yf rC rD wd1 (xD 12 U) (xD 12 U1) wd4 ws1 ws2 ws3 ws4 wi1 wi2 wi3 wi4) s.heap := hH
  have hl : lv_has ls 2 [(0, .ref a0), (1, .ref a1)] := hl
  refine lv_aload_n F.1 F.2.1 dX6_copyRow_0 rfl (lv_at hl 0 rfl) ?_
  refine lv_iconst (v := 0) F.1 F.2.1 dX6_copyRow_1 (by decide) ?_
  refine topK (a := 0) (by decide) (fun k_1 hk_1 => ?_)
  refine lv_aload_n F.1 F.2.1 dX6_copyRow_2 rfl (lv_at hl 1 rfl) ?_
  refine lv_iconst (v := 0) F.1 F.2.1 dX6_copyRow_3 (by decide) ?_
  refine topK (a := 0) (by decide) (fun k_2 hk_2 => ?_)
  refine lv_aload_n F.1 F.2.1 dX6_copyRow_4 rfl (lv_at hl 0 rfl) ?_
  refine tAlen (v := 12) F hK hH (tyb ha0 (all1 rfl)) rfl (by decide) dX6_copyRow_5 ?_
  refine topK (a := 12) (by decide) (fun k_3 hk_3 => ?_)
  refine lv_aload_n F.1 F.2.1 dX6_copyRow_6 rfl (lv_at hl 1 rfl) ?_
  refine tAlen (v := 12) F hK hH (tyb ha1 (all1 rfl)) rfl (by decide) dX6_copyRow_7 ?_
  refine topK (a := 12) (by decide) (fun k_4 hk_4 => ?_)
  refine tMin (lo := 12) (hi := 12) F wd_15_5 wd_9_0 wd_9_1 wd_9_2 hl.1 (Nat.le_of_ble_eq_true rfl) (Nat.le_of_ble_eq_true rfl) (Nat.le_of_ble_eq_true rfl) (Nat.le_of_ble_eq_true rfl) dX6_copyRow_8 (eqb hk_3) (eqb hk_4) rfl (fun z_5 hz_5 => ?_)
  have en_ : z_5 = 12 := swe (by have h9_ := hz_5.2; rw [show ((12 : Int32)).toInt = 12 by decide]; omega)
  have ep_ : k_2 = 0 := swe (by have h9_ := (eqb hk_2); rw [show ((0 : Int32)).toInt = 0 by decide]; omega)
  have eq_ : k_1 = 0 := swe (by have h9_ := (eqb hk_1); rw [show ((0 : Int32)).toInt = 0 by decide]; omega)
  subst en_ ep_ eq_
  obtain ⟨G_6, eG_6⟩ : ∃ N_ : Nat → Int32, N_ = va_cpy U U1 0 0 12 := ⟨_, rfl⟩
  have hG_6 : ivP 12 (-2) 11 G_6 := cpyX_iv hU hU1 eG_6
  refine tCopyG (P0 := fun f => f = U1) (P1 := fun f => f = G_6) (t := 41) (TB1 := (tbC dA dB rA rB rc rd tp ya yb yc yd ye yf rC rD wd1 (xD 12 U) (xD 12 G_6) wd4 ws1 ws2 ws3 ws4 wi1 wi2 wi3 wi4)) F wd_15_6 wd_15_7 wd_15_8 wd_15_9 hK hH hS (tyb ha0 (all1 rfl)) (List.mem_singleton.mp ha1) (by decide) rfl (fun f_ g_ hf_ hg_ => by have h8_ : f_ = U := hf_; have h9_ : g_ = U1 := hg_; show va_cpy f_ g_ 0 0 ((12 : Int32).toNatClampNeg) = _; rw [h8_, h9_, show ((12 : Int32)).toNatClampNeg = 12 by decide]; exact eG_6.symm) rfl (by decide) (by decide) hl.1 (Nat.le_of_ble_eq_true rfl) (Nat.le_of_ble_eq_true rfl) dX6_copyRow_11 (fun H locs hH hS => ?_)
  exact txV F hS dX6_copyRow_14 (⟨G_6, ⟨hG_6, cpyX_at eG_6⟩, hH⟩)
set_option maxHeartbeats 4000000 in
set_option maxRecDepth 100000 in
theorem c_X6_copyRow_ps_3_2 (E : Ev) (dA : TD) (dB : TD) (rA : TD) (rB : TD) (rc : TD) (rd : TD) (tp : TD) (ya : TD) (yb : TD) (yc : TD) (yd : TD) (ye : TD) (yf : TD) (rC : TD) (rD : TD) (wd1 : TD) (wd2 : TD) (wd3 : TD) (wd4 : TD) (ws1 : TD) (ws4 : TD) (wi1 : TD) (wi2 : TD) (wi3 : TD) (wi4 : TD) (U : Nat → Int32) (U1 : Nat → Int32) (a0 : Nat) (a1 : Nat) (ha0 : eT E a0 ∈ [44]) (ha1 : eT E a1 ∈ [45]) (hU : ivP 12 (-2147483648) 2147483647 U) (hU1 : ivP 12 (-2147483648) 2147483647 U1) : TcV E yX6_copyRow cX6_copyRow 2 ({ frames := 1, cells := 0, slots := 0, locals := 40 }) [.ref a0, .ref a1] (fun H => TH E (tbC dA dB rA rB rc rd tp ya yb yc yd ye yf rC rD wd1 wd2 wd3 wd4 ws1 (xD 12 U) (xD 12 U1) ws4 wi1 wi2 wi3 wi4) H) (fun H => ∃ U2 : Nat → Int32, (ivP 12 (-2147483648) 2147483647 U2 ∧ ∀ j : Nat, j < 12 → U2 j = U j) ∧ TH E (tbC dA dB rA rB rc rd tp ya yb yc yd ye yf rC rD wd1 wd2 wd3 wd4 ws1 (xD 12 U) (xD 12 U2) ws4 wi1 wi2 wi3 wi4) H) := by
  refine teV (by decide) (Nat.le_of_ble_eq_true rfl) ?_
  intro p_ ev_ s mi_ below_ meth cd_ ls F hK hN hO hH hS hl
  have hH : TH E (tbC dA dB rA rB rc rd tp ya yb yc yd ye yf rC rD wd1 wd2 wd3 wd4 ws1 (xD 12 U) (xD 12 U1) ws4 wi1 wi2 wi3 wi4) s.heap := hH
  have hl : lv_has ls 2 [(0, .ref a0), (1, .ref a1)] := hl
  refine lv_aload_n F.1 F.2.1 dX6_copyRow_0 rfl (lv_at hl 0 rfl) ?_
  refine lv_iconst (v := 0) F.1 F.2.1 dX6_copyRow_1 (by decide) ?_
  refine topK (a := 0) (by decide) (fun k_1 hk_1 => ?_)
  refine lv_aload_n F.1 F.2.1 dX6_copyRow_2 rfl (lv_at hl 1 rfl) ?_
  refine lv_iconst (v := 0) F.1 F.2.1 dX6_copyRow_3 (by decide) ?_
  refine topK (a := 0) (by decide) (fun k_2 hk_2 => ?_)
  refine lv_aload_n F.1 F.2.1 dX6_copyRow_4 rfl (lv_at hl 0 rfl) ?_
  refine tAlen (v := 12) F hK hH (tyb ha0 (all1 rfl)) rfl (by decide) dX6_copyRow_5 ?_
  refine topK (a := 12) (by decide) (fun k_3 hk_3 => ?_)
  refine lv_aload_n F.1 F.2.1 dX6_copyRow_6 rfl (lv_at hl 1 rfl) ?_
  refine tAlen (v := 12) F hK hH (tyb ha1 (all1 rfl)) rfl (by decide) dX6_copyRow_7 ?_
  refine topK (a := 12) (by decide) (fun k_4 hk_4 => ?_)
  refine tMin (lo := 12) (hi := 12) F wd_15_5 wd_9_0 wd_9_1 wd_9_2 hl.1 (Nat.le_of_ble_eq_true rfl) (Nat.le_of_ble_eq_true rfl) (Nat.le_of_ble_eq_true rfl) (Nat.le_of_ble_eq_true rfl) dX6_copyRow_8 (eqb hk_3) (eqb hk_4) rfl (fun z_5 hz_5 => ?_)
  have en_ : z_5 = 12 := swe (by have h9_ := hz_5.2; rw [show ((12 : Int32)).toInt = 12 by decide]; omega)
  have ep_ : k_2 = 0 := swe (by have h9_ := (eqb hk_2); rw [show ((0 : Int32)).toInt = 0 by decide]; omega)
  have eq_ : k_1 = 0 := swe (by have h9_ := (eqb hk_1); rw [show ((0 : Int32)).toInt = 0 by decide]; omega)
  subst en_ ep_ eq_
  obtain ⟨G_6, eG_6⟩ : ∃ N_ : Nat → Int32, N_ = va_cpy U U1 0 0 12 := ⟨_, rfl⟩
  have hG_6 : ivP 12 (-2147483648) 2147483647 G_6 := cpyX_iv hU hU1 eG_6
  refine tCopyG (P0 := fun f => f = U1) (P1 := fun f => f = G_6) (t := 45) (TB1 := (tbC dA dB rA rB rc rd tp ya yb yc yd ye yf rC rD wd1 wd2 wd3 wd4 ws1 (xD 12 U) (xD 12 G_6) ws4 wi1 wi2 wi3 wi4)) F wd_15_6 wd_15_7 wd_15_8 wd_15_9 hK hH hS (tyb ha0 (all1 rfl)) (List.mem_singleton.mp ha1) (by decide) rfl (fun f_ g_ hf_ hg_ => by have h8_ : f_ = U := hf_; have h9_ : g_ = U1 := hg_; show va_cpy f_ g_ 0 0 ((12 : Int32).toNatClampNeg) = _; rw [h8_, h9_, show ((12 : Int32)).toNatClampNeg = 12 by decide]; exact eG_6.symm) rfl (by decide) (by decide) hl.1 (Nat.le_of_ble_eq_true rfl) (Nat.le_of_ble_eq_true rfl) dX6_copyRow_11 (fun H locs hH hS => ?_)
  exact txV F hS dX6_copyRow_14 (⟨G_6, ⟨hG_6, cpyX_at eG_6⟩, hH⟩)
set_option maxHeartbeats 4000000 in
set_option maxRecDepth 100000 in
theorem c_X6_copyRow_pi_3_2 (E : Ev) (dA : TD) (dB : TD) (rA : TD) (rB : TD) (rc : TD) (rd : TD) (tp : TD) (ya : TD) (yb : TD) (yc : TD) (yd : TD) (ye : TD) (yf : TD) (rC : TD) (rD : TD) (wd1 : TD) (wd2 : TD) (wd3 : TD) (wd4 : TD) (ws1 : TD) (ws2 : TD) (ws3 : TD) (ws4 : TD) (wi1 : TD) (wi4 : TD) (U : Nat → Int32) (U1 : Nat → Int32) (a0 : Nat) (a1 : Nat) (ha0 : eT E a0 ∈ [48]) (ha1 : eT E a1 ∈ [49]) (hU : ivP 48 (-2147483648) 2147483647 U) (hU1 : ivP 48 (-2147483648) 2147483647 U1) : TcV E yX6_copyRow cX6_copyRow 2 ({ frames := 1, cells := 0, slots := 0, locals := 40 }) [.ref a0, .ref a1] (fun H => TH E (tbC dA dB rA rB rc rd tp ya yb yc yd ye yf rC rD wd1 wd2 wd3 wd4 ws1 ws2 ws3 ws4 wi1 (xD 48 U) (xD 48 U1) wi4) H) (fun H => ∃ U2 : Nat → Int32, (ivP 48 (-2147483648) 2147483647 U2 ∧ ∀ j : Nat, j < 48 → U2 j = U j) ∧ TH E (tbC dA dB rA rB rc rd tp ya yb yc yd ye yf rC rD wd1 wd2 wd3 wd4 ws1 ws2 ws3 ws4 wi1 (xD 48 U) (xD 48 U2) wi4) H) := by
  refine teV (by decide) (Nat.le_of_ble_eq_true rfl) ?_
  intro p_ ev_ s mi_ below_ meth cd_ ls F hK hN hO hH hS hl
  have hH : TH E (tbC dA dB rA rB rc rd tp ya yb yc yd ye yf rC rD wd1 wd2 wd3 wd4 ws1 ws2 ws3 ws4 wi1 (xD 48 U) (xD 48 U1) wi4) s.heap := hH
  have hl : lv_has ls 2 [(0, .ref a0), (1, .ref a1)] := hl
  refine lv_aload_n F.1 F.2.1 dX6_copyRow_0 rfl (lv_at hl 0 rfl) ?_
  refine lv_iconst (v := 0) F.1 F.2.1 dX6_copyRow_1 (by decide) ?_
  refine topK (a := 0) (by decide) (fun k_1 hk_1 => ?_)
  refine lv_aload_n F.1 F.2.1 dX6_copyRow_2 rfl (lv_at hl 1 rfl) ?_
  refine lv_iconst (v := 0) F.1 F.2.1 dX6_copyRow_3 (by decide) ?_
  refine topK (a := 0) (by decide) (fun k_2 hk_2 => ?_)
  refine lv_aload_n F.1 F.2.1 dX6_copyRow_4 rfl (lv_at hl 0 rfl) ?_
  refine tAlen (v := 48) F hK hH (tyb ha0 (all1 rfl)) rfl (by decide) dX6_copyRow_5 ?_
  refine topK (a := 48) (by decide) (fun k_3 hk_3 => ?_)
  refine lv_aload_n F.1 F.2.1 dX6_copyRow_6 rfl (lv_at hl 1 rfl) ?_
  refine tAlen (v := 48) F hK hH (tyb ha1 (all1 rfl)) rfl (by decide) dX6_copyRow_7 ?_
  refine topK (a := 48) (by decide) (fun k_4 hk_4 => ?_)
  refine tMin (lo := 48) (hi := 48) F wd_15_5 wd_9_0 wd_9_1 wd_9_2 hl.1 (Nat.le_of_ble_eq_true rfl) (Nat.le_of_ble_eq_true rfl) (Nat.le_of_ble_eq_true rfl) (Nat.le_of_ble_eq_true rfl) dX6_copyRow_8 (eqb hk_3) (eqb hk_4) rfl (fun z_5 hz_5 => ?_)
  have en_ : z_5 = 48 := swe (by have h9_ := hz_5.2; rw [show ((48 : Int32)).toInt = 48 by decide]; omega)
  have ep_ : k_2 = 0 := swe (by have h9_ := (eqb hk_2); rw [show ((0 : Int32)).toInt = 0 by decide]; omega)
  have eq_ : k_1 = 0 := swe (by have h9_ := (eqb hk_1); rw [show ((0 : Int32)).toInt = 0 by decide]; omega)
  subst en_ ep_ eq_
  obtain ⟨G_6, eG_6⟩ : ∃ N_ : Nat → Int32, N_ = va_cpy U U1 0 0 48 := ⟨_, rfl⟩
  have hG_6 : ivP 48 (-2147483648) 2147483647 G_6 := cpyX_iv hU hU1 eG_6
  refine tCopyG (P0 := fun f => f = U1) (P1 := fun f => f = G_6) (t := 49) (TB1 := (tbC dA dB rA rB rc rd tp ya yb yc yd ye yf rC rD wd1 wd2 wd3 wd4 ws1 ws2 ws3 ws4 wi1 (xD 48 U) (xD 48 G_6) wi4)) F wd_15_6 wd_15_7 wd_15_8 wd_15_9 hK hH hS (tyb ha0 (all1 rfl)) (List.mem_singleton.mp ha1) (by decide) rfl (fun f_ g_ hf_ hg_ => by have h8_ : f_ = U := hf_; have h9_ : g_ = U1 := hg_; show va_cpy f_ g_ 0 0 ((48 : Int32).toNatClampNeg) = _; rw [h8_, h9_, show ((48 : Int32)).toNatClampNeg = 48 by decide]; exact eG_6.symm) rfl (by decide) (by decide) hl.1 (Nat.le_of_ble_eq_true rfl) (Nat.le_of_ble_eq_true rfl) dX6_copyRow_11 (fun H locs hH hS => ?_)
  exact txV F hS dX6_copyRow_14 (⟨G_6, ⟨hG_6, cpyX_at eG_6⟩, hH⟩)
set_option maxHeartbeats 4000000 in
set_option maxRecDepth 100000 in
theorem c_X6_copyRow_pd_4_1 (E : Ev) (dA : TD) (dB : TD) (rA : TD) (rB : TD) (rc : TD) (rd : TD) (tp : TD) (ya : TD) (yb : TD) (yc : TD) (yd : TD) (ye : TD) (yf : TD) (rC : TD) (rD : TD) (wd2 : TD) (wd3 : TD) (ws1 : TD) (ws2 : TD) (ws3 : TD) (ws4 : TD) (wi1 : TD) (wi2 : TD) (wi3 : TD) (wi4 : TD) (U : Nat → Int32) (U1 : Nat → Int32) (a0 : Nat) (a1 : Nat) (ha0 : eT E a0 ∈ [39]) (ha1 : eT E a1 ∈ [42]) (hU : ivP 12 (-2) 11 U) (hU1 : ivP 12 (-2) 11 U1) : TcV E yX6_copyRow cX6_copyRow 2 ({ frames := 1, cells := 0, slots := 0, locals := 40 }) [.ref a0, .ref a1] (fun H => TH E (tbC dA dB rA rB rc rd tp ya yb yc yd ye yf rC rD (xD 12 U) wd2 wd3 (xD 12 U1) ws1 ws2 ws3 ws4 wi1 wi2 wi3 wi4) H) (fun H => ∃ U2 : Nat → Int32, (ivP 12 (-2) 11 U2 ∧ ∀ j : Nat, j < 12 → U2 j = U j) ∧ TH E (tbC dA dB rA rB rc rd tp ya yb yc yd ye yf rC rD (xD 12 U) wd2 wd3 (xD 12 U2) ws1 ws2 ws3 ws4 wi1 wi2 wi3 wi4) H) := by
  refine teV (by decide) (Nat.le_of_ble_eq_true rfl) ?_
  intro p_ ev_ s mi_ below_ meth cd_ ls F hK hN hO hH hS hl
  have hH : TH E (tbC dA dB rA rB rc rd tp ya yb yc yd ye yf rC rD (xD 12 U) wd2 wd3 (xD 12 U1) ws1 ws2 ws3 ws4 wi1 wi2 wi3 wi4) s.heap := hH
  have hl : lv_has ls 2 [(0, .ref a0), (1, .ref a1)] := hl
  refine lv_aload_n F.1 F.2.1 dX6_copyRow_0 rfl (lv_at hl 0 rfl) ?_
  refine lv_iconst (v := 0) F.1 F.2.1 dX6_copyRow_1 (by decide) ?_
  refine topK (a := 0) (by decide) (fun k_1 hk_1 => ?_)
  refine lv_aload_n F.1 F.2.1 dX6_copyRow_2 rfl (lv_at hl 1 rfl) ?_
  refine lv_iconst (v := 0) F.1 F.2.1 dX6_copyRow_3 (by decide) ?_
  refine topK (a := 0) (by decide) (fun k_2 hk_2 => ?_)
  refine lv_aload_n F.1 F.2.1 dX6_copyRow_4 rfl (lv_at hl 0 rfl) ?_
  refine tAlen (v := 12) F hK hH (tyb ha0 (all1 rfl)) rfl (by decide) dX6_copyRow_5 ?_
  refine topK (a := 12) (by decide) (fun k_3 hk_3 => ?_)
  refine lv_aload_n F.1 F.2.1 dX6_copyRow_6 rfl (lv_at hl 1 rfl) ?_
  refine tAlen (v := 12) F hK hH (tyb ha1 (all1 rfl)) rfl (by decide) dX6_copyRow_7 ?_
  refine topK (a := 12) (by decide) (fun k_4 hk_4 => ?_)
  refine tMin (lo := 12) (hi := 12) F wd_15_5 wd_9_0 wd_9_1 wd_9_2 hl.1 (Nat.le_of_ble_eq_true rfl) (Nat.le_of_ble_eq_true rfl) (Nat.le_of_ble_eq_true rfl) (Nat.le_of_ble_eq_true rfl) dX6_copyRow_8 (eqb hk_3) (eqb hk_4) rfl (fun z_5 hz_5 => ?_)
  have en_ : z_5 = 12 := swe (by have h9_ := hz_5.2; rw [show ((12 : Int32)).toInt = 12 by decide]; omega)
  have ep_ : k_2 = 0 := swe (by have h9_ := (eqb hk_2); rw [show ((0 : Int32)).toInt = 0 by decide]; omega)
  have eq_ : k_1 = 0 := swe (by have h9_ := (eqb hk_1); rw [show ((0 : Int32)).toInt = 0 by decide]; omega)
  subst en_ ep_ eq_
  obtain ⟨G_6, eG_6⟩ : ∃ N_ : Nat → Int32, N_ = va_cpy U U1 0 0 12 := ⟨_, rfl⟩
  have hG_6 : ivP 12 (-2) 11 G_6 := cpyX_iv hU hU1 eG_6
  refine tCopyG (P0 := fun f => f = U1) (P1 := fun f => f = G_6) (t := 42) (TB1 := (tbC dA dB rA rB rc rd tp ya yb yc yd ye yf rC rD (xD 12 U) wd2 wd3 (xD 12 G_6) ws1 ws2 ws3 ws4 wi1 wi2 wi3 wi4)) F wd_15_6 wd_15_7 wd_15_8 wd_15_9 hK hH hS (tyb ha0 (all1 rfl)) (List.mem_singleton.mp ha1) (by decide) rfl (fun f_ g_ hf_ hg_ => by have h8_ : f_ = U := hf_; have h9_ : g_ = U1 := hg_; show va_cpy f_ g_ 0 0 ((12 : Int32).toNatClampNeg) = _; rw [h8_, h9_, show ((12 : Int32)).toNatClampNeg = 12 by decide]; exact eG_6.symm) rfl (by decide) (by decide) hl.1 (Nat.le_of_ble_eq_true rfl) (Nat.le_of_ble_eq_true rfl) dX6_copyRow_11 (fun H locs hH hS => ?_)
  exact txV F hS dX6_copyRow_14 (⟨G_6, ⟨hG_6, cpyX_at eG_6⟩, hH⟩)
set_option maxHeartbeats 4000000 in
set_option maxRecDepth 100000 in
theorem c_X6_copyRow_ps_4_1 (E : Ev) (dA : TD) (dB : TD) (rA : TD) (rB : TD) (rc : TD) (rd : TD) (tp : TD) (ya : TD) (yb : TD) (yc : TD) (yd : TD) (ye : TD) (yf : TD) (rC : TD) (rD : TD) (wd1 : TD) (wd2 : TD) (wd3 : TD) (wd4 : TD) (ws2 : TD) (ws3 : TD) (wi1 : TD) (wi2 : TD) (wi3 : TD) (wi4 : TD) (U : Nat → Int32) (U1 : Nat → Int32) (a0 : Nat) (a1 : Nat) (ha0 : eT E a0 ∈ [43]) (ha1 : eT E a1 ∈ [46]) (hU : ivP 12 (-2147483648) 2147483647 U) (hU1 : ivP 12 (-2147483648) 2147483647 U1) : TcV E yX6_copyRow cX6_copyRow 2 ({ frames := 1, cells := 0, slots := 0, locals := 40 }) [.ref a0, .ref a1] (fun H => TH E (tbC dA dB rA rB rc rd tp ya yb yc yd ye yf rC rD wd1 wd2 wd3 wd4 (xD 12 U) ws2 ws3 (xD 12 U1) wi1 wi2 wi3 wi4) H) (fun H => ∃ U2 : Nat → Int32, (ivP 12 (-2147483648) 2147483647 U2 ∧ ∀ j : Nat, j < 12 → U2 j = U j) ∧ TH E (tbC dA dB rA rB rc rd tp ya yb yc yd ye yf rC rD wd1 wd2 wd3 wd4 (xD 12 U) ws2 ws3 (xD 12 U2) wi1 wi2 wi3 wi4) H) := by
  refine teV (by decide) (Nat.le_of_ble_eq_true rfl) ?_
  intro p_ ev_ s mi_ below_ meth cd_ ls F hK hN hO hH hS hl
  have hH : TH E (tbC dA dB rA rB rc rd tp ya yb yc yd ye yf rC rD wd1 wd2 wd3 wd4 (xD 12 U) ws2 ws3 (xD 12 U1) wi1 wi2 wi3 wi4) s.heap := hH
  have hl : lv_has ls 2 [(0, .ref a0), (1, .ref a1)] := hl
  refine lv_aload_n F.1 F.2.1 dX6_copyRow_0 rfl (lv_at hl 0 rfl) ?_
  refine lv_iconst (v := 0) F.1 F.2.1 dX6_copyRow_1 (by decide) ?_
  refine topK (a := 0) (by decide) (fun k_1 hk_1 => ?_)
  refine lv_aload_n F.1 F.2.1 dX6_copyRow_2 rfl (lv_at hl 1 rfl) ?_
  refine lv_iconst (v := 0) F.1 F.2.1 dX6_copyRow_3 (by decide) ?_
  refine topK (a := 0) (by decide) (fun k_2 hk_2 => ?_)
  refine lv_aload_n F.1 F.2.1 dX6_copyRow_4 rfl (lv_at hl 0 rfl) ?_
  refine tAlen (v := 12) F hK hH (tyb ha0 (all1 rfl)) rfl (by decide) dX6_copyRow_5 ?_
  refine topK (a := 12) (by decide) (fun k_3 hk_3 => ?_)
  refine lv_aload_n F.1 F.2.1 dX6_copyRow_6 rfl (lv_at hl 1 rfl) ?_
  refine tAlen (v := 12) F hK hH (tyb ha1 (all1 rfl)) rfl (by decide) dX6_copyRow_7 ?_
  refine topK (a := 12) (by decide) (fun k_4 hk_4 => ?_)
  refine tMin (lo := 12) (hi := 12) F wd_15_5 wd_9_0 wd_9_1 wd_9_2 hl.1 (Nat.le_of_ble_eq_true rfl) (Nat.le_of_ble_eq_true rfl) (Nat.le_of_ble_eq_true rfl) (Nat.le_of_ble_eq_true rfl) dX6_copyRow_8 (eqb hk_3) (eqb hk_4) rfl (fun z_5 hz_5 => ?_)
  have en_ : z_5 = 12 := swe (by have h9_ := hz_5.2; rw [show ((12 : Int32)).toInt = 12 by decide]; omega)
  have ep_ : k_2 = 0 := swe (by have h9_ := (eqb hk_2); rw [show ((0 : Int32)).toInt = 0 by decide]; omega)
  have eq_ : k_1 = 0 := swe (by have h9_ := (eqb hk_1); rw [show ((0 : Int32)).toInt = 0 by decide]; omega)
  subst en_ ep_ eq_
  obtain ⟨G_6, eG_6⟩ : ∃ N_ : Nat → Int32, N_ = va_cpy U U1 0 0 12 := ⟨_, rfl⟩
  have hG_6 : ivP 12 (-2147483648) 2147483647 G_6 := cpyX_iv hU hU1 eG_6
  refine tCopyG (P0 := fun f => f = U1) (P1 := fun f => f = G_6) (t := 46) (TB1 := (tbC dA dB rA rB rc rd tp ya yb yc yd ye yf rC rD wd1 wd2 wd3 wd4 (xD 12 U) ws2 ws3 (xD 12 G_6) wi1 wi2 wi3 wi4)) F wd_15_6 wd_15_7 wd_15_8 wd_15_9 hK hH hS (tyb ha0 (all1 rfl)) (List.mem_singleton.mp ha1) (by decide) rfl (fun f_ g_ hf_ hg_ => by have h8_ : f_ = U := hf_; have h9_ : g_ = U1 := hg_; show va_cpy f_ g_ 0 0 ((12 : Int32).toNatClampNeg) = _; rw [h8_, h9_, show ((12 : Int32)).toNatClampNeg = 12 by decide]; exact eG_6.symm) rfl (by decide) (by decide) hl.1 (Nat.le_of_ble_eq_true rfl) (Nat.le_of_ble_eq_true rfl) dX6_copyRow_11 (fun H locs hH hS => ?_)
  exact txV F hS dX6_copyRow_14 (⟨G_6, ⟨hG_6, cpyX_at eG_6⟩, hH⟩)
set_option maxHeartbeats 4000000 in
set_option maxRecDepth 100000 in
theorem c_X6_copyRow_pi_4_1 (E : Ev) (dA : TD) (dB : TD) (rA : TD) (rB : TD) (rc : TD) (rd : TD) (tp : TD) (ya : TD) (yb : TD) (yc : TD) (yd : TD) (ye : TD) (yf : TD) (rC : TD) (rD : TD) (wd1 : TD) (wd2 : TD) (wd3 : TD) (wd4 : TD) (ws1 : TD) (ws2 : TD) (ws3 : TD) (ws4 : TD) (wi2 : TD) (wi3 : TD) (U : Nat → Int32) (U1 : Nat → Int32) (a0 : Nat) (a1 : Nat) (ha0 : eT E a0 ∈ [47]) (ha1 : eT E a1 ∈ [50]) (hU : ivP 48 (-2147483648) 2147483647 U) (hU1 : ivP 48 (-2147483648) 2147483647 U1) : TcV E yX6_copyRow cX6_copyRow 2 ({ frames := 1, cells := 0, slots := 0, locals := 40 }) [.ref a0, .ref a1] (fun H => TH E (tbC dA dB rA rB rc rd tp ya yb yc yd ye yf rC rD wd1 wd2 wd3 wd4 ws1 ws2 ws3 ws4 (xD 48 U) wi2 wi3 (xD 48 U1)) H) (fun H => ∃ U2 : Nat → Int32, (ivP 48 (-2147483648) 2147483647 U2 ∧ ∀ j : Nat, j < 48 → U2 j = U j) ∧ TH E (tbC dA dB rA rB rc rd tp ya yb yc yd ye yf rC rD wd1 wd2 wd3 wd4 ws1 ws2 ws3 ws4 (xD 48 U) wi2 wi3 (xD 48 U2)) H) := by
  refine teV (by decide) (Nat.le_of_ble_eq_true rfl) ?_
  intro p_ ev_ s mi_ below_ meth cd_ ls F hK hN hO hH hS hl
  have hH : TH E (tbC dA dB rA rB rc rd tp ya yb yc yd ye yf rC rD wd1 wd2 wd3 wd4 ws1 ws2 ws3 ws4 (xD 48 U) wi2 wi3 (xD 48 U1)) s.heap := hH
  have hl : lv_has ls 2 [(0, .ref a0), (1, .ref a1)] := hl
  refine lv_aload_n F.1 F.2.1 dX6_copyRow_0 rfl (lv_at hl 0 rfl) ?_
  refine lv_iconst (v := 0) F.1 F.2.1 dX6_copyRow_1 (by decide) ?_
  refine topK (a := 0) (by decide) (fun k_1 hk_1 => ?_)
  refine lv_aload_n F.1 F.2.1 dX6_copyRow_2 rfl (lv_at hl 1 rfl) ?_
  refine lv_iconst (v := 0) F.1 F.2.1 dX6_copyRow_3 (by decide) ?_
  refine topK (a := 0) (by decide) (fun k_2 hk_2 => ?_)
  refine lv_aload_n F.1 F.2.1 dX6_copyRow_4 rfl (lv_at hl 0 rfl) ?_
  refine tAlen (v := 48) F hK hH (tyb ha0 (all1 rfl)) rfl (by decide) dX6_copyRow_5 ?_
  refine topK (a := 48) (by decide) (fun k_3 hk_3 => ?_)
  refine lv_aload_n F.1 F.2.1 dX6_copyRow_6 rfl (lv_at hl 1 rfl) ?_
  refine tAlen (v := 48) F hK hH (tyb ha1 (all1 rfl)) rfl (by decide) dX6_copyRow_7 ?_
  refine topK (a := 48) (by decide) (fun k_4 hk_4 => ?_)
  refine tMin (lo := 48) (hi := 48) F wd_15_5 wd_9_0 wd_9_1 wd_9_2 hl.1 (Nat.le_of_ble_eq_true rfl) (Nat.le_of_ble_eq_true rfl) (Nat.le_of_ble_eq_true rfl) (Nat.le_of_ble_eq_true rfl) dX6_copyRow_8 (eqb hk_3) (eqb hk_4) rfl (fun z_5 hz_5 => ?_)
  have en_ : z_5 = 48 := swe (by have h9_ := hz_5.2; rw [show ((48 : Int32)).toInt = 48 by decide]; omega)
  have ep_ : k_2 = 0 := swe (by have h9_ := (eqb hk_2); rw [show ((0 : Int32)).toInt = 0 by decide]; omega)
  have eq_ : k_1 = 0 := swe (by have h9_ := (eqb hk_1); rw [show ((0 : Int32)).toInt = 0 by decide]; omega)
  subst en_ ep_ eq_
  obtain ⟨G_6, eG_6⟩ : ∃ N_ : Nat → Int32, N_ = va_cpy U U1 0 0 48 := ⟨_, rfl⟩
  have hG_6 : ivP 48 (-2147483648) 2147483647 G_6 := cpyX_iv hU hU1 eG_6
  refine tCopyG (P0 := fun f => f = U1) (P1 := fun f => f = G_6) (t := 50) (TB1 := (tbC dA dB rA rB rc rd tp ya yb yc yd ye yf rC rD wd1 wd2 wd3 wd4 ws1 ws2 ws3 ws4 (xD 48 U) wi2 wi3 (xD 48 G_6))) F wd_15_6 wd_15_7 wd_15_8 wd_15_9 hK hH hS (tyb ha0 (all1 rfl)) (List.mem_singleton.mp ha1) (by decide) rfl (fun f_ g_ hf_ hg_ => by have h8_ : f_ = U := hf_; have h9_ : g_ = U1 := hg_; show va_cpy f_ g_ 0 0 ((48 : Int32).toNatClampNeg) = _; rw [h8_, h9_, show ((48 : Int32)).toNatClampNeg = 48 by decide]; exact eG_6.symm) rfl (by decide) (by decide) hl.1 (Nat.le_of_ble_eq_true rfl) (Nat.le_of_ble_eq_true rfl) dX6_copyRow_11 (fun H locs hH hS => ?_)
  exact txV F hS dX6_copyRow_14 (⟨G_6, ⟨hG_6, cpyX_at eG_6⟩, hH⟩)
set_option maxHeartbeats 4000000 in
set_option maxRecDepth 100000 in
theorem c_X6_copyRow_pd_4_2 (E : Ev) (dA : TD) (dB : TD) (rA : TD) (rB : TD) (rc : TD) (rd : TD) (tp : TD) (ya : TD) (yb : TD) (yc : TD) (yd : TD) (ye : TD) (yf : TD) (rC : TD) (rD : TD) (wd1 : TD) (wd3 : TD) (ws1 : TD) (ws2 : TD) (ws3 : TD) (ws4 : TD) (wi1 : TD) (wi2 : TD) (wi3 : TD) (wi4 : TD) (U : Nat → Int32) (U1 : Nat → Int32) (a0 : Nat) (a1 : Nat) (ha0 : eT E a0 ∈ [40]) (ha1 : eT E a1 ∈ [42]) (hU : ivP 12 (-2) 11 U) (hU1 : ivP 12 (-2) 11 U1) : TcV E yX6_copyRow cX6_copyRow 2 ({ frames := 1, cells := 0, slots := 0, locals := 40 }) [.ref a0, .ref a1] (fun H => TH E (tbC dA dB rA rB rc rd tp ya yb yc yd ye yf rC rD wd1 (xD 12 U) wd3 (xD 12 U1) ws1 ws2 ws3 ws4 wi1 wi2 wi3 wi4) H) (fun H => ∃ U2 : Nat → Int32, (ivP 12 (-2) 11 U2 ∧ ∀ j : Nat, j < 12 → U2 j = U j) ∧ TH E (tbC dA dB rA rB rc rd tp ya yb yc yd ye yf rC rD wd1 (xD 12 U) wd3 (xD 12 U2) ws1 ws2 ws3 ws4 wi1 wi2 wi3 wi4) H) := by
  refine teV (by decide) (Nat.le_of_ble_eq_true rfl) ?_
  intro p_ ev_ s mi_ below_ meth cd_ ls F hK hN hO hH hS hl
  have hH : TH E (tbC dA dB rA rB rc rd tp ya yb yc yd ye yf rC rD wd1 (xD 12 U) wd3 (xD 12 U1) ws1 ws2 ws3 ws4 wi1 wi2 wi3 wi4) s.heap := hH
  have hl : lv_has ls 2 [(0, .ref a0), (1, .ref a1)] := hl
  refine lv_aload_n F.1 F.2.1 dX6_copyRow_0 rfl (lv_at hl 0 rfl) ?_
  refine lv_iconst (v := 0) F.1 F.2.1 dX6_copyRow_1 (by decide) ?_
  refine topK (a := 0) (by decide) (fun k_1 hk_1 => ?_)
  refine lv_aload_n F.1 F.2.1 dX6_copyRow_2 rfl (lv_at hl 1 rfl) ?_
  refine lv_iconst (v := 0) F.1 F.2.1 dX6_copyRow_3 (by decide) ?_
  refine topK (a := 0) (by decide) (fun k_2 hk_2 => ?_)
  refine lv_aload_n F.1 F.2.1 dX6_copyRow_4 rfl (lv_at hl 0 rfl) ?_
  refine tAlen (v := 12) F hK hH (tyb ha0 (all1 rfl)) rfl (by decide) dX6_copyRow_5 ?_
  refine topK (a := 12) (by decide) (fun k_3 hk_3 => ?_)
  refine lv_aload_n F.1 F.2.1 dX6_copyRow_6 rfl (lv_at hl 1 rfl) ?_
  refine tAlen (v := 12) F hK hH (tyb ha1 (all1 rfl)) rfl (by decide) dX6_copyRow_7 ?_
  refine topK (a := 12) (by decide) (fun k_4 hk_4 => ?_)
  refine tMin (lo := 12) (hi := 12) F wd_15_5 wd_9_0 wd_9_1 wd_9_2 hl.1 (Nat.le_of_ble_eq_true rfl) (Nat.le_of_ble_eq_true rfl) (Nat.le_of_ble_eq_true rfl) (Nat.le_of_ble_eq_true rfl) dX6_copyRow_8 (eqb hk_3) (eqb hk_4) rfl (fun z_5 hz_5 => ?_)
  have en_ : z_5 = 12 := swe (by have h9_ := hz_5.2; rw [show ((12 : Int32)).toInt = 12 by decide]; omega)
  have ep_ : k_2 = 0 := swe (by have h9_ := (eqb hk_2); rw [show ((0 : Int32)).toInt = 0 by decide]; omega)
  have eq_ : k_1 = 0 := swe (by have h9_ := (eqb hk_1); rw [show ((0 : Int32)).toInt = 0 by decide]; omega)
  subst en_ ep_ eq_
  obtain ⟨G_6, eG_6⟩ : ∃ N_ : Nat → Int32, N_ = va_cpy U U1 0 0 12 := ⟨_, rfl⟩
  have hG_6 : ivP 12 (-2) 11 G_6 := cpyX_iv hU hU1 eG_6
  refine tCopyG (P0 := fun f => f = U1) (P1 := fun f => f = G_6) (t := 42) (TB1 := (tbC dA dB rA rB rc rd tp ya yb yc yd ye yf rC rD wd1 (xD 12 U) wd3 (xD 12 G_6) ws1 ws2 ws3 ws4 wi1 wi2 wi3 wi4)) F wd_15_6 wd_15_7 wd_15_8 wd_15_9 hK hH hS (tyb ha0 (all1 rfl)) (List.mem_singleton.mp ha1) (by decide) rfl (fun f_ g_ hf_ hg_ => by have h8_ : f_ = U := hf_; have h9_ : g_ = U1 := hg_; show va_cpy f_ g_ 0 0 ((12 : Int32).toNatClampNeg) = _; rw [h8_, h9_, show ((12 : Int32)).toNatClampNeg = 12 by decide]; exact eG_6.symm) rfl (by decide) (by decide) hl.1 (Nat.le_of_ble_eq_true rfl) (Nat.le_of_ble_eq_true rfl) dX6_copyRow_11 (fun H locs hH hS => ?_)
  exact txV F hS dX6_copyRow_14 (⟨G_6, ⟨hG_6, cpyX_at eG_6⟩, hH⟩)
set_option maxHeartbeats 4000000 in
set_option maxRecDepth 100000 in
theorem c_X6_copyRow_ps_4_2 (E : Ev) (dA : TD) (dB : TD) (rA : TD) (rB : TD) (rc : TD) (rd : TD) (tp : TD) (ya : TD) (yb : TD) (yc : TD) (yd : TD) (ye : TD) (yf : TD) (rC : TD) (rD : TD) (wd1 : TD) (wd2 : TD) (wd3 : TD) (wd4 : TD) (ws1 : TD) (ws3 : TD) (wi1 : TD) (wi2 : TD) (wi3 : TD) (wi4 : TD) (U : Nat → Int32) (U1 : Nat → Int32) (a0 : Nat) (a1 : Nat) (ha0 : eT E a0 ∈ [44]) (ha1 : eT E a1 ∈ [46]) (hU : ivP 12 (-2147483648) 2147483647 U) (hU1 : ivP 12 (-2147483648) 2147483647 U1) : TcV E yX6_copyRow cX6_copyRow 2 ({ frames := 1, cells := 0, slots := 0, locals := 40 }) [.ref a0, .ref a1] (fun H => TH E (tbC dA dB rA rB rc rd tp ya yb yc yd ye yf rC rD wd1 wd2 wd3 wd4 ws1 (xD 12 U) ws3 (xD 12 U1) wi1 wi2 wi3 wi4) H) (fun H => ∃ U2 : Nat → Int32, (ivP 12 (-2147483648) 2147483647 U2 ∧ ∀ j : Nat, j < 12 → U2 j = U j) ∧ TH E (tbC dA dB rA rB rc rd tp ya yb yc yd ye yf rC rD wd1 wd2 wd3 wd4 ws1 (xD 12 U) ws3 (xD 12 U2) wi1 wi2 wi3 wi4) H) := by
  refine teV (by decide) (Nat.le_of_ble_eq_true rfl) ?_
  intro p_ ev_ s mi_ below_ meth cd_ ls F hK hN hO hH hS hl
  have hH : TH E (tbC dA dB rA rB rc rd tp ya yb yc yd ye yf rC rD wd1 wd2 wd3 wd4 ws1 (xD 12 U) ws3 (xD 12 U1) wi1 wi2 wi3 wi4) s.heap := hH
  have hl : lv_has ls 2 [(0, .ref a0), (1, .ref a1)] := hl
  refine lv_aload_n F.1 F.2.1 dX6_copyRow_0 rfl (lv_at hl 0 rfl) ?_
  refine lv_iconst (v := 0) F.1 F.2.1 dX6_copyRow_1 (by decide) ?_
  refine topK (a := 0) (by decide) (fun k_1 hk_1 => ?_)
  refine lv_aload_n F.1 F.2.1 dX6_copyRow_2 rfl (lv_at hl 1 rfl) ?_
  refine lv_iconst (v := 0) F.1 F.2.1 dX6_copyRow_3 (by decide) ?_
  refine topK (a := 0) (by decide) (fun k_2 hk_2 => ?_)
  refine lv_aload_n F.1 F.2.1 dX6_copyRow_4 rfl (lv_at hl 0 rfl) ?_
  refine tAlen (v := 12) F hK hH (tyb ha0 (all1 rfl)) rfl (by decide) dX6_copyRow_5 ?_
  refine topK (a := 12) (by decide) (fun k_3 hk_3 => ?_)
  refine lv_aload_n F.1 F.2.1 dX6_copyRow_6 rfl (lv_at hl 1 rfl) ?_
  refine tAlen (v := 12) F hK hH (tyb ha1 (all1 rfl)) rfl (by decide) dX6_copyRow_7 ?_
  refine topK (a := 12) (by decide) (fun k_4 hk_4 => ?_)
  refine tMin (lo := 12) (hi := 12) F wd_15_5 wd_9_0 wd_9_1 wd_9_2 hl.1 (Nat.le_of_ble_eq_true rfl) (Nat.le_of_ble_eq_true rfl) (Nat.le_of_ble_eq_true rfl) (Nat.le_of_ble_eq_true rfl) dX6_copyRow_8 (eqb hk_3) (eqb hk_4) rfl (fun z_5 hz_5 => ?_)
  have en_ : z_5 = 12 := swe (by have h9_ := hz_5.2; rw [show ((12 : Int32)).toInt = 12 by decide]; omega)
  have ep_ : k_2 = 0 := swe (by have h9_ := (eqb hk_2); rw [show ((0 : Int32)).toInt = 0 by decide]; omega)
  have eq_ : k_1 = 0 := swe (by have h9_ := (eqb hk_1); rw [show ((0 : Int32)).toInt = 0 by decide]; omega)
  subst en_ ep_ eq_
  obtain ⟨G_6, eG_6⟩ : ∃ N_ : Nat → Int32, N_ = va_cpy U U1 0 0 12 := ⟨_, rfl⟩
  have hG_6 : ivP 12 (-2147483648) 2147483647 G_6 := cpyX_iv hU hU1 eG_6
  refine tCopyG (P0 := fun f => f = U1) (P1 := fun f => f = G_6) (t := 46) (TB1 := (tbC dA dB rA rB rc rd tp ya yb yc yd ye yf rC rD wd1 wd2 wd3 wd4 ws1 (xD 12 U) ws3 (xD 12 G_6) wi1 wi2 wi3 wi4)) F wd_15_6 wd_15_7 wd_15_8 wd_15_9 hK hH hS (tyb ha0 (all1 rfl)) (List.mem_singleton.mp ha1) (by decide) rfl (fun f_ g_ hf_ hg_ => by have h8_ : f_ = U := hf_; have h9_ : g_ = U1 := hg_; show va_cpy f_ g_ 0 0 ((12 : Int32).toNatClampNeg) = _; rw [h8_, h9_, show ((12 : Int32)).toNatClampNeg = 12 by decide]; exact eG_6.symm) rfl (by decide) (by decide) hl.1 (Nat.le_of_ble_eq_true rfl) (Nat.le_of_ble_eq_true rfl) dX6_copyRow_11 (fun H locs hH hS => ?_)
  exact txV F hS dX6_copyRow_14 (⟨G_6, ⟨hG_6, cpyX_at eG_6⟩, hH⟩)
set_option maxHeartbeats 4000000 in
set_option maxRecDepth 100000 in
theorem c_X6_copyRow_pi_4_2 (E : Ev) (dA : TD) (dB : TD) (rA : TD) (rB : TD) (rc : TD) (rd : TD) (tp : TD) (ya : TD) (yb : TD) (yc : TD) (yd : TD) (ye : TD) (yf : TD) (rC : TD) (rD : TD) (wd1 : TD) (wd2 : TD) (wd3 : TD) (wd4 : TD) (ws1 : TD) (ws2 : TD) (ws3 : TD) (ws4 : TD) (wi1 : TD) (wi3 : TD) (U : Nat → Int32) (U1 : Nat → Int32) (a0 : Nat) (a1 : Nat) (ha0 : eT E a0 ∈ [48]) (ha1 : eT E a1 ∈ [50]) (hU : ivP 48 (-2147483648) 2147483647 U) (hU1 : ivP 48 (-2147483648) 2147483647 U1) : TcV E yX6_copyRow cX6_copyRow 2 ({ frames := 1, cells := 0, slots := 0, locals := 40 }) [.ref a0, .ref a1] (fun H => TH E (tbC dA dB rA rB rc rd tp ya yb yc yd ye yf rC rD wd1 wd2 wd3 wd4 ws1 ws2 ws3 ws4 wi1 (xD 48 U) wi3 (xD 48 U1)) H) (fun H => ∃ U2 : Nat → Int32, (ivP 48 (-2147483648) 2147483647 U2 ∧ ∀ j : Nat, j < 48 → U2 j = U j) ∧ TH E (tbC dA dB rA rB rc rd tp ya yb yc yd ye yf rC rD wd1 wd2 wd3 wd4 ws1 ws2 ws3 ws4 wi1 (xD 48 U) wi3 (xD 48 U2)) H) := by
  refine teV (by decide) (Nat.le_of_ble_eq_true rfl) ?_
  intro p_ ev_ s mi_ below_ meth cd_ ls F hK hN hO hH hS hl
  have hH : TH E (tbC dA dB rA rB rc rd tp ya yb yc yd ye yf rC rD wd1 wd2 wd3 wd4 ws1 ws2 ws3 ws4 wi1 (xD 48 U) wi3 (xD 48 U1)) s.heap := hH
  have hl : lv_has ls 2 [(0, .ref a0), (1, .ref a1)] := hl
  refine lv_aload_n F.1 F.2.1 dX6_copyRow_0 rfl (lv_at hl 0 rfl) ?_
  refine lv_iconst (v := 0) F.1 F.2.1 dX6_copyRow_1 (by decide) ?_
  refine topK (a := 0) (by decide) (fun k_1 hk_1 => ?_)
  refine lv_aload_n F.1 F.2.1 dX6_copyRow_2 rfl (lv_at hl 1 rfl) ?_
  refine lv_iconst (v := 0) F.1 F.2.1 dX6_copyRow_3 (by decide) ?_
  refine topK (a := 0) (by decide) (fun k_2 hk_2 => ?_)
  refine lv_aload_n F.1 F.2.1 dX6_copyRow_4 rfl (lv_at hl 0 rfl) ?_
  refine tAlen (v := 48) F hK hH (tyb ha0 (all1 rfl)) rfl (by decide) dX6_copyRow_5 ?_
  refine topK (a := 48) (by decide) (fun k_3 hk_3 => ?_)
  refine lv_aload_n F.1 F.2.1 dX6_copyRow_6 rfl (lv_at hl 1 rfl) ?_
  refine tAlen (v := 48) F hK hH (tyb ha1 (all1 rfl)) rfl (by decide) dX6_copyRow_7 ?_
  refine topK (a := 48) (by decide) (fun k_4 hk_4 => ?_)
  refine tMin (lo := 48) (hi := 48) F wd_15_5 wd_9_0 wd_9_1 wd_9_2 hl.1 (Nat.le_of_ble_eq_true rfl) (Nat.le_of_ble_eq_true rfl) (Nat.le_of_ble_eq_true rfl) (Nat.le_of_ble_eq_true rfl) dX6_copyRow_8 (eqb hk_3) (eqb hk_4) rfl (fun z_5 hz_5 => ?_)
  have en_ : z_5 = 48 := swe (by have h9_ := hz_5.2; rw [show ((48 : Int32)).toInt = 48 by decide]; omega)
  have ep_ : k_2 = 0 := swe (by have h9_ := (eqb hk_2); rw [show ((0 : Int32)).toInt = 0 by decide]; omega)
  have eq_ : k_1 = 0 := swe (by have h9_ := (eqb hk_1); rw [show ((0 : Int32)).toInt = 0 by decide]; omega)
  subst en_ ep_ eq_
  obtain ⟨G_6, eG_6⟩ : ∃ N_ : Nat → Int32, N_ = va_cpy U U1 0 0 48 := ⟨_, rfl⟩
  have hG_6 : ivP 48 (-2147483648) 2147483647 G_6 := cpyX_iv hU hU1 eG_6
  refine tCopyG (P0 := fun f => f = U1) (P1 := fun f => f = G_6) (t := 50) (TB1 := (tbC dA dB rA rB rc rd tp ya yb yc yd ye yf rC rD wd1 wd2 wd3 wd4 ws1 ws2 ws3 ws4 wi1 (xD 48 U) wi3 (xD 48 G_6))) F wd_15_6 wd_15_7 wd_15_8 wd_15_9 hK hH hS (tyb ha0 (all1 rfl)) (List.mem_singleton.mp ha1) (by decide) rfl (fun f_ g_ hf_ hg_ => by have h8_ : f_ = U := hf_; have h9_ : g_ = U1 := hg_; show va_cpy f_ g_ 0 0 ((48 : Int32).toNatClampNeg) = _; rw [h8_, h9_, show ((48 : Int32)).toNatClampNeg = 48 by decide]; exact eG_6.symm) rfl (by decide) (by decide) hl.1 (Nat.le_of_ble_eq_true rfl) (Nat.le_of_ble_eq_true rfl) dX6_copyRow_11 (fun H locs hH hS => ?_)
  exact txV F hS dX6_copyRow_14 (⟨G_6, ⟨hG_6, cpyX_at eG_6⟩, hH⟩)
set_option maxHeartbeats 4000000 in
set_option maxRecDepth 100000 in
theorem c_X6_copyRow_pd_1_3 (E : Ev) (dA : TD) (dB : TD) (rA : TD) (rB : TD) (rc : TD) (rd : TD) (tp : TD) (ya : TD) (yb : TD) (yc : TD) (yd : TD) (ye : TD) (yf : TD) (rC : TD) (rD : TD) (wd2 : TD) (wd4 : TD) (ws1 : TD) (ws2 : TD) (ws3 : TD) (ws4 : TD) (wi1 : TD) (wi2 : TD) (wi3 : TD) (wi4 : TD) (U1 : Nat → Int32) (U : Nat → Int32) (a0 : Nat) (a1 : Nat) (ha0 : eT E a0 ∈ [41]) (ha1 : eT E a1 ∈ [39]) (hU1 : ivP 12 (-2) 11 U1) (hU : ivP 12 (-2) 11 U) : TcV E yX6_copyRow cX6_copyRow 2 ({ frames := 1, cells := 0, slots := 0, locals := 40 }) [.ref a0, .ref a1] (fun H => TH E (tbC dA dB rA rB rc rd tp ya yb yc yd ye yf rC rD (xD 12 U1) wd2 (xD 12 U) wd4 ws1 ws2 ws3 ws4 wi1 wi2 wi3 wi4) H) (fun H => ∃ U2 : Nat → Int32, (ivP 12 (-2) 11 U2 ∧ ∀ j : Nat, j < 12 → U2 j = U j) ∧ TH E (tbC dA dB rA rB rc rd tp ya yb yc yd ye yf rC rD (xD 12 U2) wd2 (xD 12 U) wd4 ws1 ws2 ws3 ws4 wi1 wi2 wi3 wi4) H) := by
  refine teV (by decide) (Nat.le_of_ble_eq_true rfl) ?_
  intro p_ ev_ s mi_ below_ meth cd_ ls F hK hN hO hH hS hl
  have hH : TH E (tbC dA dB rA rB rc rd tp ya yb yc yd ye yf rC rD (xD 12 U1) wd2 (xD 12 U) wd4 ws1 ws2 ws3 ws4 wi1 wi2 wi3 wi4) s.heap := hH
  have hl : lv_has ls 2 [(0, .ref a0), (1, .ref a1)] := hl
  refine lv_aload_n F.1 F.2.1 dX6_copyRow_0 rfl (lv_at hl 0 rfl) ?_
  refine lv_iconst (v := 0) F.1 F.2.1 dX6_copyRow_1 (by decide) ?_
  refine topK (a := 0) (by decide) (fun k_1 hk_1 => ?_)
  refine lv_aload_n F.1 F.2.1 dX6_copyRow_2 rfl (lv_at hl 1 rfl) ?_
  refine lv_iconst (v := 0) F.1 F.2.1 dX6_copyRow_3 (by decide) ?_
  refine topK (a := 0) (by decide) (fun k_2 hk_2 => ?_)
  refine lv_aload_n F.1 F.2.1 dX6_copyRow_4 rfl (lv_at hl 0 rfl) ?_
  refine tAlen (v := 12) F hK hH (tyb ha0 (all1 rfl)) rfl (by decide) dX6_copyRow_5 ?_
  refine topK (a := 12) (by decide) (fun k_3 hk_3 => ?_)
  refine lv_aload_n F.1 F.2.1 dX6_copyRow_6 rfl (lv_at hl 1 rfl) ?_
  refine tAlen (v := 12) F hK hH (tyb ha1 (all1 rfl)) rfl (by decide) dX6_copyRow_7 ?_
  refine topK (a := 12) (by decide) (fun k_4 hk_4 => ?_)
  refine tMin (lo := 12) (hi := 12) F wd_15_5 wd_9_0 wd_9_1 wd_9_2 hl.1 (Nat.le_of_ble_eq_true rfl) (Nat.le_of_ble_eq_true rfl) (Nat.le_of_ble_eq_true rfl) (Nat.le_of_ble_eq_true rfl) dX6_copyRow_8 (eqb hk_3) (eqb hk_4) rfl (fun z_5 hz_5 => ?_)
  have en_ : z_5 = 12 := swe (by have h9_ := hz_5.2; rw [show ((12 : Int32)).toInt = 12 by decide]; omega)
  have ep_ : k_2 = 0 := swe (by have h9_ := (eqb hk_2); rw [show ((0 : Int32)).toInt = 0 by decide]; omega)
  have eq_ : k_1 = 0 := swe (by have h9_ := (eqb hk_1); rw [show ((0 : Int32)).toInt = 0 by decide]; omega)
  subst en_ ep_ eq_
  obtain ⟨G_6, eG_6⟩ : ∃ N_ : Nat → Int32, N_ = va_cpy U U1 0 0 12 := ⟨_, rfl⟩
  have hG_6 : ivP 12 (-2) 11 G_6 := cpyX_iv hU hU1 eG_6
  refine tCopyG (P0 := fun f => f = U1) (P1 := fun f => f = G_6) (t := 39) (TB1 := (tbC dA dB rA rB rc rd tp ya yb yc yd ye yf rC rD (xD 12 G_6) wd2 (xD 12 U) wd4 ws1 ws2 ws3 ws4 wi1 wi2 wi3 wi4)) F wd_15_6 wd_15_7 wd_15_8 wd_15_9 hK hH hS (tyb ha0 (all1 rfl)) (List.mem_singleton.mp ha1) (by decide) rfl (fun f_ g_ hf_ hg_ => by have h8_ : f_ = U := hf_; have h9_ : g_ = U1 := hg_; show va_cpy f_ g_ 0 0 ((12 : Int32).toNatClampNeg) = _; rw [h8_, h9_, show ((12 : Int32)).toNatClampNeg = 12 by decide]; exact eG_6.symm) rfl (by decide) (by decide) hl.1 (Nat.le_of_ble_eq_true rfl) (Nat.le_of_ble_eq_true rfl) dX6_copyRow_11 (fun H locs hH hS => ?_)
  exact txV F hS dX6_copyRow_14 (⟨G_6, ⟨hG_6, cpyX_at eG_6⟩, hH⟩)
set_option maxHeartbeats 4000000 in
set_option maxRecDepth 100000 in
theorem c_X6_copyRow_ps_1_3 (E : Ev) (dA : TD) (dB : TD) (rA : TD) (rB : TD) (rc : TD) (rd : TD) (tp : TD) (ya : TD) (yb : TD) (yc : TD) (yd : TD) (ye : TD) (yf : TD) (rC : TD) (rD : TD) (wd1 : TD) (wd2 : TD) (wd3 : TD) (wd4 : TD) (ws2 : TD) (ws4 : TD) (wi1 : TD) (wi2 : TD) (wi3 : TD) (wi4 : TD) (U1 : Nat → Int32) (U : Nat → Int32) (a0 : Nat) (a1 : Nat) (ha0 : eT E a0 ∈ [45]) (ha1 : eT E a1 ∈ [43]) (hU1 : ivP 12 (-2147483648) 2147483647 U1) (hU : ivP 12 (-2147483648) 2147483647 U) : TcV E yX6_copyRow cX6_copyRow 2 ({ frames := 1, cells := 0, slots := 0, locals := 40 }) [.ref a0, .ref a1] (fun H => TH E (tbC dA dB rA rB rc rd tp ya yb yc yd ye yf rC rD wd1 wd2 wd3 wd4 (xD 12 U1) ws2 (xD 12 U) ws4 wi1 wi2 wi3 wi4) H) (fun H => ∃ U2 : Nat → Int32, (ivP 12 (-2147483648) 2147483647 U2 ∧ ∀ j : Nat, j < 12 → U2 j = U j) ∧ TH E (tbC dA dB rA rB rc rd tp ya yb yc yd ye yf rC rD wd1 wd2 wd3 wd4 (xD 12 U2) ws2 (xD 12 U) ws4 wi1 wi2 wi3 wi4) H) := by
  refine teV (by decide) (Nat.le_of_ble_eq_true rfl) ?_
  intro p_ ev_ s mi_ below_ meth cd_ ls F hK hN hO hH hS hl
  have hH : TH E (tbC dA dB rA rB rc rd tp ya yb yc yd ye yf rC rD wd1 wd2 wd3 wd4 (xD 12 U1) ws2 (xD 12 U) ws4 wi1 wi2 wi3 wi4) s.heap := hH
  have hl : lv_has ls 2 [(0, .ref a0), (1, .ref a1)] := hl
  refine lv_aload_n F.1 F.2.1 dX6_copyRow_0 rfl (lv_at hl 0 rfl) ?_
  refine lv_iconst (v := 0) F.1 F.2.1 dX6_copyRow_1 (by decide) ?_
  refine topK (a := 0) (by decide) (fun k_1 hk_1 => ?_)
  refine lv_aload_n F.1 F.2.1 dX6_copyRow_2 rfl (lv_at hl 1 rfl) ?_
  refine lv_iconst (v := 0) F.1 F.2.1 dX6_copyRow_3 (by decide) ?_
  refine topK (a := 0) (by decide) (fun k_2 hk_2 => ?_)
  refine lv_aload_n F.1 F.2.1 dX6_copyRow_4 rfl (lv_at hl 0 rfl) ?_
  refine tAlen (v := 12) F hK hH (tyb ha0 (all1 rfl)) rfl (by decide) dX6_copyRow_5 ?_
  refine topK (a := 12) (by decide) (fun k_3 hk_3 => ?_)
  refine lv_aload_n F.1 F.2.1 dX6_copyRow_6 rfl (lv_at hl 1 rfl) ?_
  refine tAlen (v := 12) F hK hH (tyb ha1 (all1 rfl)) rfl (by decide) dX6_copyRow_7 ?_
  refine topK (a := 12) (by decide) (fun k_4 hk_4 => ?_)
  refine tMin (lo := 12) (hi := 12) F wd_15_5 wd_9_0 wd_9_1 wd_9_2 hl.1 (Nat.le_of_ble_eq_true rfl) (Nat.le_of_ble_eq_true rfl) (Nat.le_of_ble_eq_true rfl) (Nat.le_of_ble_eq_true rfl) dX6_copyRow_8 (eqb hk_3) (eqb hk_4) rfl (fun z_5 hz_5 => ?_)
  have en_ : z_5 = 12 := swe (by have h9_ := hz_5.2; rw [show ((12 : Int32)).toInt = 12 by decide]; omega)
  have ep_ : k_2 = 0 := swe (by have h9_ := (eqb hk_2); rw [show ((0 : Int32)).toInt = 0 by decide]; omega)
  have eq_ : k_1 = 0 := swe (by have h9_ := (eqb hk_1); rw [show ((0 : Int32)).toInt = 0 by decide]; omega)
  subst en_ ep_ eq_
  obtain ⟨G_6, eG_6⟩ : ∃ N_ : Nat → Int32, N_ = va_cpy U U1 0 0 12 := ⟨_, rfl⟩
  have hG_6 : ivP 12 (-2147483648) 2147483647 G_6 := cpyX_iv hU hU1 eG_6
  refine tCopyG (P0 := fun f => f = U1) (P1 := fun f => f = G_6) (t := 43) (TB1 := (tbC dA dB rA rB rc rd tp ya yb yc yd ye yf rC rD wd1 wd2 wd3 wd4 (xD 12 G_6) ws2 (xD 12 U) ws4 wi1 wi2 wi3 wi4)) F wd_15_6 wd_15_7 wd_15_8 wd_15_9 hK hH hS (tyb ha0 (all1 rfl)) (List.mem_singleton.mp ha1) (by decide) rfl (fun f_ g_ hf_ hg_ => by have h8_ : f_ = U := hf_; have h9_ : g_ = U1 := hg_; show va_cpy f_ g_ 0 0 ((12 : Int32).toNatClampNeg) = _; rw [h8_, h9_, show ((12 : Int32)).toNatClampNeg = 12 by decide]; exact eG_6.symm) rfl (by decide) (by decide) hl.1 (Nat.le_of_ble_eq_true rfl) (Nat.le_of_ble_eq_true rfl) dX6_copyRow_11 (fun H locs hH hS => ?_)
  exact txV F hS dX6_copyRow_14 (⟨G_6, ⟨hG_6, cpyX_at eG_6⟩, hH⟩)
set_option maxHeartbeats 4000000 in
set_option maxRecDepth 100000 in
theorem c_X6_copyRow_pi_1_3 (E : Ev) (dA : TD) (dB : TD) (rA : TD) (rB : TD) (rc : TD) (rd : TD) (tp : TD) (ya : TD) (yb : TD) (yc : TD) (yd : TD) (ye : TD) (yf : TD) (rC : TD) (rD : TD) (wd1 : TD) (wd2 : TD) (wd3 : TD) (wd4 : TD) (ws1 : TD) (ws2 : TD) (ws3 : TD) (ws4 : TD) (wi2 : TD) (wi4 : TD) (U1 : Nat → Int32) (U : Nat → Int32) (a0 : Nat) (a1 : Nat) (ha0 : eT E a0 ∈ [49]) (ha1 : eT E a1 ∈ [47]) (hU1 : ivP 48 (-2147483648) 2147483647 U1) (hU : ivP 48 (-2147483648) 2147483647 U) : TcV E yX6_copyRow cX6_copyRow 2 ({ frames := 1, cells := 0, slots := 0, locals := 40 }) [.ref a0, .ref a1] (fun H => TH E (tbC dA dB rA rB rc rd tp ya yb yc yd ye yf rC rD wd1 wd2 wd3 wd4 ws1 ws2 ws3 ws4 (xD 48 U1) wi2 (xD 48 U) wi4) H) (fun H => ∃ U2 : Nat → Int32, (ivP 48 (-2147483648) 2147483647 U2 ∧ ∀ j : Nat, j < 48 → U2 j = U j) ∧ TH E (tbC dA dB rA rB rc rd tp ya yb yc yd ye yf rC rD wd1 wd2 wd3 wd4 ws1 ws2 ws3 ws4 (xD 48 U2) wi2 (xD 48 U) wi4) H) := by
  refine teV (by decide) (Nat.le_of_ble_eq_true rfl) ?_
  intro p_ ev_ s mi_ below_ meth cd_ ls F hK hN hO hH hS hl
  have hH : TH E (tbC dA dB rA rB rc rd tp ya yb yc yd ye yf rC rD wd1 wd2 wd3 wd4 ws1 ws2 ws3 ws4 (xD 48 U1) wi2 (xD 48 U) wi4) s.heap := hH
  have hl : lv_has ls 2 [(0, .ref a0), (1, .ref a1)] := hl
  refine lv_aload_n F.1 F.2.1 dX6_copyRow_0 rfl (lv_at hl 0 rfl) ?_
  refine lv_iconst (v := 0) F.1 F.2.1 dX6_copyRow_1 (by decide) ?_
  refine topK (a := 0) (by decide) (fun k_1 hk_1 => ?_)
  refine lv_aload_n F.1 F.2.1 dX6_copyRow_2 rfl (lv_at hl 1 rfl) ?_
  refine lv_iconst (v := 0) F.1 F.2.1 dX6_copyRow_3 (by decide) ?_
  refine topK (a := 0) (by decide) (fun k_2 hk_2 => ?_)
  refine lv_aload_n F.1 F.2.1 dX6_copyRow_4 rfl (lv_at hl 0 rfl) ?_
  refine tAlen (v := 48) F hK hH (tyb ha0 (all1 rfl)) rfl (by decide) dX6_copyRow_5 ?_
  refine topK (a := 48) (by decide) (fun k_3 hk_3 => ?_)
  refine lv_aload_n F.1 F.2.1 dX6_copyRow_6 rfl (lv_at hl 1 rfl) ?_
  refine tAlen (v := 48) F hK hH (tyb ha1 (all1 rfl)) rfl (by decide) dX6_copyRow_7 ?_
  refine topK (a := 48) (by decide) (fun k_4 hk_4 => ?_)
  refine tMin (lo := 48) (hi := 48) F wd_15_5 wd_9_0 wd_9_1 wd_9_2 hl.1 (Nat.le_of_ble_eq_true rfl) (Nat.le_of_ble_eq_true rfl) (Nat.le_of_ble_eq_true rfl) (Nat.le_of_ble_eq_true rfl) dX6_copyRow_8 (eqb hk_3) (eqb hk_4) rfl (fun z_5 hz_5 => ?_)
  have en_ : z_5 = 48 := swe (by have h9_ := hz_5.2; rw [show ((48 : Int32)).toInt = 48 by decide]; omega)
  have ep_ : k_2 = 0 := swe (by have h9_ := (eqb hk_2); rw [show ((0 : Int32)).toInt = 0 by decide]; omega)
  have eq_ : k_1 = 0 := swe (by have h9_ := (eqb hk_1); rw [show ((0 : Int32)).toInt = 0 by decide]; omega)
  subst en_ ep_ eq_
  obtain ⟨G_6, eG_6⟩ : ∃ N_ : Nat → Int32, N_ = va_cpy U U1 0 0 48 := ⟨_, rfl⟩
  have hG_6 : ivP 48 (-2147483648) 2147483647 G_6 := cpyX_iv hU hU1 eG_6
  refine tCopyG (P0 := fun f => f = U1) (P1 := fun f => f = G_6) (t := 47) (TB1 := (tbC dA dB rA rB rc rd tp ya yb yc yd ye yf rC rD wd1 wd2 wd3 wd4 ws1 ws2 ws3 ws4 (xD 48 G_6) wi2 (xD 48 U) wi4)) F wd_15_6 wd_15_7 wd_15_8 wd_15_9 hK hH hS (tyb ha0 (all1 rfl)) (List.mem_singleton.mp ha1) (by decide) rfl (fun f_ g_ hf_ hg_ => by have h8_ : f_ = U := hf_; have h9_ : g_ = U1 := hg_; show va_cpy f_ g_ 0 0 ((48 : Int32).toNatClampNeg) = _; rw [h8_, h9_, show ((48 : Int32)).toNatClampNeg = 48 by decide]; exact eG_6.symm) rfl (by decide) (by decide) hl.1 (Nat.le_of_ble_eq_true rfl) (Nat.le_of_ble_eq_true rfl) dX6_copyRow_11 (fun H locs hH hS => ?_)
  exact txV F hS dX6_copyRow_14 (⟨G_6, ⟨hG_6, cpyX_at eG_6⟩, hH⟩)
set_option maxHeartbeats 4000000 in
set_option maxRecDepth 100000 in
theorem c_X6_copyRow_pd_1_4 (E : Ev) (dA : TD) (dB : TD) (rA : TD) (rB : TD) (rc : TD) (rd : TD) (tp : TD) (ya : TD) (yb : TD) (yc : TD) (yd : TD) (ye : TD) (yf : TD) (rC : TD) (rD : TD) (wd2 : TD) (wd3 : TD) (ws1 : TD) (ws2 : TD) (ws3 : TD) (ws4 : TD) (wi1 : TD) (wi2 : TD) (wi3 : TD) (wi4 : TD) (U1 : Nat → Int32) (U : Nat → Int32) (a0 : Nat) (a1 : Nat) (ha0 : eT E a0 ∈ [42]) (ha1 : eT E a1 ∈ [39]) (hU1 : ivP 12 (-2) 11 U1) (hU : ivP 12 (-2) 11 U) : TcV E yX6_copyRow cX6_copyRow 2 ({ frames := 1, cells := 0, slots := 0, locals := 40 }) [.ref a0, .ref a1] (fun H => TH E (tbC dA dB rA rB rc rd tp ya yb yc yd ye yf rC rD (xD 12 U1) wd2 wd3 (xD 12 U) ws1 ws2 ws3 ws4 wi1 wi2 wi3 wi4) H) (fun H => ∃ U2 : Nat → Int32, (ivP 12 (-2) 11 U2 ∧ ∀ j : Nat, j < 12 → U2 j = U j) ∧ TH E (tbC dA dB rA rB rc rd tp ya yb yc yd ye yf rC rD (xD 12 U2) wd2 wd3 (xD 12 U) ws1 ws2 ws3 ws4 wi1 wi2 wi3 wi4) H) := by
  refine teV (by decide) (Nat.le_of_ble_eq_true rfl) ?_
  intro p_ ev_ s mi_ below_ meth cd_ ls F hK hN hO hH hS hl
  have hH : TH E (tbC dA dB rA rB rc rd tp ya yb yc yd ye yf rC rD (xD 12 U1) wd2 wd3 (xD 12 U) ws1 ws2 ws3 ws4 wi1 wi2 wi3 wi4) s.heap := hH
  have hl : lv_has ls 2 [(0, .ref a0), (1, .ref a1)] := hl
  refine lv_aload_n F.1 F.2.1 dX6_copyRow_0 rfl (lv_at hl 0 rfl) ?_
  refine lv_iconst (v := 0) F.1 F.2.1 dX6_copyRow_1 (by decide) ?_
  refine topK (a := 0) (by decide) (fun k_1 hk_1 => ?_)
  refine lv_aload_n F.1 F.2.1 dX6_copyRow_2 rfl (lv_at hl 1 rfl) ?_
  refine lv_iconst (v := 0) F.1 F.2.1 dX6_copyRow_3 (by decide) ?_
  refine topK (a := 0) (by decide) (fun k_2 hk_2 => ?_)
  refine lv_aload_n F.1 F.2.1 dX6_copyRow_4 rfl (lv_at hl 0 rfl) ?_
  refine tAlen (v := 12) F hK hH (tyb ha0 (all1 rfl)) rfl (by decide) dX6_copyRow_5 ?_
  refine topK (a := 12) (by decide) (fun k_3 hk_3 => ?_)
  refine lv_aload_n F.1 F.2.1 dX6_copyRow_6 rfl (lv_at hl 1 rfl) ?_
  refine tAlen (v := 12) F hK hH (tyb ha1 (all1 rfl)) rfl (by decide) dX6_copyRow_7 ?_
  refine topK (a := 12) (by decide) (fun k_4 hk_4 => ?_)
  refine tMin (lo := 12) (hi := 12) F wd_15_5 wd_9_0 wd_9_1 wd_9_2 hl.1 (Nat.le_of_ble_eq_true rfl) (Nat.le_of_ble_eq_true rfl) (Nat.le_of_ble_eq_true rfl) (Nat.le_of_ble_eq_true rfl) dX6_copyRow_8 (eqb hk_3) (eqb hk_4) rfl (fun z_5 hz_5 => ?_)
  have en_ : z_5 = 12 := swe (by have h9_ := hz_5.2; rw [show ((12 : Int32)).toInt = 12 by decide]; omega)
  have ep_ : k_2 = 0 := swe (by have h9_ := (eqb hk_2); rw [show ((0 : Int32)).toInt = 0 by decide]; omega)
  have eq_ : k_1 = 0 := swe (by have h9_ := (eqb hk_1); rw [show ((0 : Int32)).toInt = 0 by decide]; omega)
  subst en_ ep_ eq_
  obtain ⟨G_6, eG_6⟩ : ∃ N_ : Nat → Int32, N_ = va_cpy U U1 0 0 12 := ⟨_, rfl⟩
  have hG_6 : ivP 12 (-2) 11 G_6 := cpyX_iv hU hU1 eG_6
  refine tCopyG (P0 := fun f => f = U1) (P1 := fun f => f = G_6) (t := 39) (TB1 := (tbC dA dB rA rB rc rd tp ya yb yc yd ye yf rC rD (xD 12 G_6) wd2 wd3 (xD 12 U) ws1 ws2 ws3 ws4 wi1 wi2 wi3 wi4)) F wd_15_6 wd_15_7 wd_15_8 wd_15_9 hK hH hS (tyb ha0 (all1 rfl)) (List.mem_singleton.mp ha1) (by decide) rfl (fun f_ g_ hf_ hg_ => by have h8_ : f_ = U := hf_; have h9_ : g_ = U1 := hg_; show va_cpy f_ g_ 0 0 ((12 : Int32).toNatClampNeg) = _; rw [h8_, h9_, show ((12 : Int32)).toNatClampNeg = 12 by decide]; exact eG_6.symm) rfl (by decide) (by decide) hl.1 (Nat.le_of_ble_eq_true rfl) (Nat.le_of_ble_eq_true rfl) dX6_copyRow_11 (fun H locs hH hS => ?_)
  exact txV F hS dX6_copyRow_14 (⟨G_6, ⟨hG_6, cpyX_at eG_6⟩, hH⟩)
set_option maxHeartbeats 4000000 in
set_option maxRecDepth 100000 in
theorem c_X6_copyRow_ps_1_4 (E : Ev) (dA : TD) (dB : TD) (rA : TD) (rB : TD) (rc : TD) (rd : TD) (tp : TD) (ya : TD) (yb : TD) (yc : TD) (yd : TD) (ye : TD) (yf : TD) (rC : TD) (rD : TD) (wd1 : TD) (wd2 : TD) (wd3 : TD) (wd4 : TD) (ws2 : TD) (ws3 : TD) (wi1 : TD) (wi2 : TD) (wi3 : TD) (wi4 : TD) (U1 : Nat → Int32) (U : Nat → Int32) (a0 : Nat) (a1 : Nat) (ha0 : eT E a0 ∈ [46]) (ha1 : eT E a1 ∈ [43]) (hU1 : ivP 12 (-2147483648) 2147483647 U1) (hU : ivP 12 (-2147483648) 2147483647 U) : TcV E yX6_copyRow cX6_copyRow 2 ({ frames := 1, cells := 0, slots := 0, locals := 40 }) [.ref a0, .ref a1] (fun H => TH E (tbC dA dB rA rB rc rd tp ya yb yc yd ye yf rC rD wd1 wd2 wd3 wd4 (xD 12 U1) ws2 ws3 (xD 12 U) wi1 wi2 wi3 wi4) H) (fun H => ∃ U2 : Nat → Int32, (ivP 12 (-2147483648) 2147483647 U2 ∧ ∀ j : Nat, j < 12 → U2 j = U j) ∧ TH E (tbC dA dB rA rB rc rd tp ya yb yc yd ye yf rC rD wd1 wd2 wd3 wd4 (xD 12 U2) ws2 ws3 (xD 12 U) wi1 wi2 wi3 wi4) H) := by
  refine teV (by decide) (Nat.le_of_ble_eq_true rfl) ?_
  intro p_ ev_ s mi_ below_ meth cd_ ls F hK hN hO hH hS hl
  have hH : TH E (tbC dA dB rA rB rc rd tp ya yb yc yd ye yf rC rD wd1 wd2 wd3 wd4 (xD 12 U1) ws2 ws3 (xD 12 U) wi1 wi2 wi3 wi4) s.heap := hH
  have hl : lv_has ls 2 [(0, .ref a0), (1, .ref a1)] := hl
  refine lv_aload_n F.1 F.2.1 dX6_copyRow_0 rfl (lv_at hl 0 rfl) ?_
  refine lv_iconst (v := 0) F.1 F.2.1 dX6_copyRow_1 (by decide) ?_
  refine topK (a := 0) (by decide) (fun k_1 hk_1 => ?_)
  refine lv_aload_n F.1 F.2.1 dX6_copyRow_2 rfl (lv_at hl 1 rfl) ?_
  refine lv_iconst (v := 0) F.1 F.2.1 dX6_copyRow_3 (by decide) ?_
  refine topK (a := 0) (by decide) (fun k_2 hk_2 => ?_)
  refine lv_aload_n F.1 F.2.1 dX6_copyRow_4 rfl (lv_at hl 0 rfl) ?_
  refine tAlen (v := 12) F hK hH (tyb ha0 (all1 rfl)) rfl (by decide) dX6_copyRow_5 ?_
  refine topK (a := 12) (by decide) (fun k_3 hk_3 => ?_)
  refine lv_aload_n F.1 F.2.1 dX6_copyRow_6 rfl (lv_at hl 1 rfl) ?_
  refine tAlen (v := 12) F hK hH (tyb ha1 (all1 rfl)) rfl (by decide) dX6_copyRow_7 ?_
  refine topK (a := 12) (by decide) (fun k_4 hk_4 => ?_)
  refine tMin (lo := 12) (hi := 12) F wd_15_5 wd_9_0 wd_9_1 wd_9_2 hl.1 (Nat.le_of_ble_eq_true rfl) (Nat.le_of_ble_eq_true rfl) (Nat.le_of_ble_eq_true rfl) (Nat.le_of_ble_eq_true rfl) dX6_copyRow_8 (eqb hk_3) (eqb hk_4) rfl (fun z_5 hz_5 => ?_)
  have en_ : z_5 = 12 := swe (by have h9_ := hz_5.2; rw [show ((12 : Int32)).toInt = 12 by decide]; omega)
  have ep_ : k_2 = 0 := swe (by have h9_ := (eqb hk_2); rw [show ((0 : Int32)).toInt = 0 by decide]; omega)
  have eq_ : k_1 = 0 := swe (by have h9_ := (eqb hk_1); rw [show ((0 : Int32)).toInt = 0 by decide]; omega)
  subst en_ ep_ eq_
  obtain ⟨G_6, eG_6⟩ : ∃ N_ : Nat → Int32, N_ = va_cpy U U1 0 0 12 := ⟨_, rfl⟩
  have hG_6 : ivP 12 (-2147483648) 2147483647 G_6 := cpyX_iv hU hU1 eG_6
  refine tCopyG (P0 := fun f => f = U1) (P1 := fun f => f = G_6) (t := 43) (TB1 := (tbC dA dB rA rB rc rd tp ya yb yc yd ye yf rC rD wd1 wd2 wd3 wd4 (xD 12 G_6) ws2 ws3 (xD 12 U) wi1 wi2 wi3 wi4)) F wd_15_6 wd_15_7 wd_15_8 wd_15_9 hK hH hS (tyb ha0 (all1 rfl)) (List.mem_singleton.mp ha1) (by decide) rfl (fun f_ g_ hf_ hg_ => by have h8_ : f_ = U := hf_; have h9_ : g_ = U1 := hg_; show va_cpy f_ g_ 0 0 ((12 : Int32).toNatClampNeg) = _; rw [h8_, h9_, show ((12 : Int32)).toNatClampNeg = 12 by decide]; exact eG_6.symm) rfl (by decide) (by decide) hl.1 (Nat.le_of_ble_eq_true rfl) (Nat.le_of_ble_eq_true rfl) dX6_copyRow_11 (fun H locs hH hS => ?_)
  exact txV F hS dX6_copyRow_14 (⟨G_6, ⟨hG_6, cpyX_at eG_6⟩, hH⟩)
set_option maxHeartbeats 4000000 in
set_option maxRecDepth 100000 in
theorem c_X6_copyRow_pi_1_4 (E : Ev) (dA : TD) (dB : TD) (rA : TD) (rB : TD) (rc : TD) (rd : TD) (tp : TD) (ya : TD) (yb : TD) (yc : TD) (yd : TD) (ye : TD) (yf : TD) (rC : TD) (rD : TD) (wd1 : TD) (wd2 : TD) (wd3 : TD) (wd4 : TD) (ws1 : TD) (ws2 : TD) (ws3 : TD) (ws4 : TD) (wi2 : TD) (wi3 : TD) (U1 : Nat → Int32) (U : Nat → Int32) (a0 : Nat) (a1 : Nat) (ha0 : eT E a0 ∈ [50]) (ha1 : eT E a1 ∈ [47]) (hU1 : ivP 48 (-2147483648) 2147483647 U1) (hU : ivP 48 (-2147483648) 2147483647 U) : TcV E yX6_copyRow cX6_copyRow 2 ({ frames := 1, cells := 0, slots := 0, locals := 40 }) [.ref a0, .ref a1] (fun H => TH E (tbC dA dB rA rB rc rd tp ya yb yc yd ye yf rC rD wd1 wd2 wd3 wd4 ws1 ws2 ws3 ws4 (xD 48 U1) wi2 wi3 (xD 48 U)) H) (fun H => ∃ U2 : Nat → Int32, (ivP 48 (-2147483648) 2147483647 U2 ∧ ∀ j : Nat, j < 48 → U2 j = U j) ∧ TH E (tbC dA dB rA rB rc rd tp ya yb yc yd ye yf rC rD wd1 wd2 wd3 wd4 ws1 ws2 ws3 ws4 (xD 48 U2) wi2 wi3 (xD 48 U)) H) := by
  refine teV (by decide) (Nat.le_of_ble_eq_true rfl) ?_
  intro p_ ev_ s mi_ below_ meth cd_ ls F hK hN hO hH hS hl
  have hH : TH E (tbC dA dB rA rB rc rd tp ya yb yc yd ye yf rC rD wd1 wd2 wd3 wd4 ws1 ws2 ws3 ws4 (xD 48 U1) wi2 wi3 (xD 48 U)) s.heap := hH
  have hl : lv_has ls 2 [(0, .ref a0), (1, .ref a1)] := hl
  refine lv_aload_n F.1 F.2.1 dX6_copyRow_0 rfl (lv_at hl 0 rfl) ?_
  refine lv_iconst (v := 0) F.1 F.2.1 dX6_copyRow_1 (by decide) ?_
  refine topK (a := 0) (by decide) (fun k_1 hk_1 => ?_)
  refine lv_aload_n F.1 F.2.1 dX6_copyRow_2 rfl (lv_at hl 1 rfl) ?_
  refine lv_iconst (v := 0) F.1 F.2.1 dX6_copyRow_3 (by decide) ?_
  refine topK (a := 0) (by decide) (fun k_2 hk_2 => ?_)
  refine lv_aload_n F.1 F.2.1 dX6_copyRow_4 rfl (lv_at hl 0 rfl) ?_
  refine tAlen (v := 48) F hK hH (tyb ha0 (all1 rfl)) rfl (by decide) dX6_copyRow_5 ?_
  refine topK (a := 48) (by decide) (fun k_3 hk_3 => ?_)
  refine lv_aload_n F.1 F.2.1 dX6_copyRow_6 rfl (lv_at hl 1 rfl) ?_
  refine tAlen (v := 48) F hK hH (tyb ha1 (all1 rfl)) rfl (by decide) dX6_copyRow_7 ?_
  refine topK (a := 48) (by decide) (fun k_4 hk_4 => ?_)
  refine tMin (lo := 48) (hi := 48) F wd_15_5 wd_9_0 wd_9_1 wd_9_2 hl.1 (Nat.le_of_ble_eq_true rfl) (Nat.le_of_ble_eq_true rfl) (Nat.le_of_ble_eq_true rfl) (Nat.le_of_ble_eq_true rfl) dX6_copyRow_8 (eqb hk_3) (eqb hk_4) rfl (fun z_5 hz_5 => ?_)
  have en_ : z_5 = 48 := swe (by have h9_ := hz_5.2; rw [show ((48 : Int32)).toInt = 48 by decide]; omega)
  have ep_ : k_2 = 0 := swe (by have h9_ := (eqb hk_2); rw [show ((0 : Int32)).toInt = 0 by decide]; omega)
  have eq_ : k_1 = 0 := swe (by have h9_ := (eqb hk_1); rw [show ((0 : Int32)).toInt = 0 by decide]; omega)
  subst en_ ep_ eq_
  obtain ⟨G_6, eG_6⟩ : ∃ N_ : Nat → Int32, N_ = va_cpy U U1 0 0 48 := ⟨_, rfl⟩
  have hG_6 : ivP 48 (-2147483648) 2147483647 G_6 := cpyX_iv hU hU1 eG_6
  refine tCopyG (P0 := fun f => f = U1) (P1 := fun f => f = G_6) (t := 47) (TB1 := (tbC dA dB rA rB rc rd tp ya yb yc yd ye yf rC rD wd1 wd2 wd3 wd4 ws1 ws2 ws3 ws4 (xD 48 G_6) wi2 wi3 (xD 48 U))) F wd_15_6 wd_15_7 wd_15_8 wd_15_9 hK hH hS (tyb ha0 (all1 rfl)) (List.mem_singleton.mp ha1) (by decide) rfl (fun f_ g_ hf_ hg_ => by have h8_ : f_ = U := hf_; have h9_ : g_ = U1 := hg_; show va_cpy f_ g_ 0 0 ((48 : Int32).toNatClampNeg) = _; rw [h8_, h9_, show ((48 : Int32)).toNatClampNeg = 48 by decide]; exact eG_6.symm) rfl (by decide) (by decide) hl.1 (Nat.le_of_ble_eq_true rfl) (Nat.le_of_ble_eq_true rfl) dX6_copyRow_11 (fun H locs hH hS => ?_)
  exact txV F hS dX6_copyRow_14 (⟨G_6, ⟨hG_6, cpyX_at eG_6⟩, hH⟩)
set_option maxHeartbeats 4000000 in
set_option maxRecDepth 100000 in
theorem c_X6_copyRow_pd_2_3 (E : Ev) (dA : TD) (dB : TD) (rA : TD) (rB : TD) (rc : TD) (rd : TD) (tp : TD) (ya : TD) (yb : TD) (yc : TD) (yd : TD) (ye : TD) (yf : TD) (rC : TD) (rD : TD) (wd1 : TD) (wd4 : TD) (ws1 : TD) (ws2 : TD) (ws3 : TD) (ws4 : TD) (wi1 : TD) (wi2 : TD) (wi3 : TD) (wi4 : TD) (U1 : Nat → Int32) (U : Nat → Int32) (a0 : Nat) (a1 : Nat) (ha0 : eT E a0 ∈ [41]) (ha1 : eT E a1 ∈ [40]) (hU1 : ivP 12 (-2) 11 U1) (hU : ivP 12 (-2) 11 U) : TcV E yX6_copyRow cX6_copyRow 2 ({ frames := 1, cells := 0, slots := 0, locals := 40 }) [.ref a0, .ref a1] (fun H => TH E (tbC dA dB rA rB rc rd tp ya yb yc yd ye yf rC rD wd1 (xD 12 U1) (xD 12 U) wd4 ws1 ws2 ws3 ws4 wi1 wi2 wi3 wi4) H) (fun H => ∃ U2 : Nat → Int32, (ivP 12 (-2) 11 U2 ∧ ∀ j : Nat, j < 12 → U2 j = U j) ∧ TH E (tbC dA dB rA rB rc rd tp ya yb yc yd ye yf rC rD wd1 (xD 12 U2) (xD 12 U) wd4 ws1 ws2 ws3 ws4 wi1 wi2 wi3 wi4) H) := by
  refine teV (by decide) (Nat.le_of_ble_eq_true rfl) ?_
  intro p_ ev_ s mi_ below_ meth cd_ ls F hK hN hO hH hS hl
  have hH : TH E (tbC dA dB rA rB rc rd tp ya yb yc yd ye yf rC rD wd1 (xD 12 U1) (xD 12 U) wd4 ws1 ws2 ws3 ws4 wi1 wi2 wi3 wi4) s.heap := hH
  have hl : lv_has ls 2 [(0, .ref a0), (1, .ref a1)] := hl
  refine lv_aload_n F.1 F.2.1 dX6_copyRow_0 rfl (lv_at hl 0 rfl) ?_
  refine lv_iconst (v := 0) F.1 F.2.1 dX6_copyRow_1 (by decide) ?_
  refine topK (a := 0) (by decide) (fun k_1 hk_1 => ?_)
  refine lv_aload_n F.1 F.2.1 dX6_copyRow_2 rfl (lv_at hl 1 rfl) ?_
  refine lv_iconst (v := 0) F.1 F.2.1 dX6_copyRow_3 (by decide) ?_
  refine topK (a := 0) (by decide) (fun k_2 hk_2 => ?_)
  refine lv_aload_n F.1 F.2.1 dX6_copyRow_4 rfl (lv_at hl 0 rfl) ?_
  refine tAlen (v := 12) F hK hH (tyb ha0 (all1 rfl)) rfl (by decide) dX6_copyRow_5 ?_
  refine topK (a := 12) (by decide) (fun k_3 hk_3 => ?_)
  refine lv_aload_n F.1 F.2.1 dX6_copyRow_6 rfl (lv_at hl 1 rfl) ?_
  refine tAlen (v := 12) F hK hH (tyb ha1 (all1 rfl)) rfl (by decide) dX6_copyRow_7 ?_
  refine topK (a := 12) (by decide) (fun k_4 hk_4 => ?_)
  refine tMin (lo := 12) (hi := 12) F wd_15_5 wd_9_0 wd_9_1 wd_9_2 hl.1 (Nat.le_of_ble_eq_true rfl) (Nat.le_of_ble_eq_true rfl) (Nat.le_of_ble_eq_true rfl) (Nat.le_of_ble_eq_true rfl) dX6_copyRow_8 (eqb hk_3) (eqb hk_4) rfl (fun z_5 hz_5 => ?_)
  have en_ : z_5 = 12 := swe (by have h9_ := hz_5.2; rw [show ((12 : Int32)).toInt = 12 by decide]; omega)
  have ep_ : k_2 = 0 := swe (by have h9_ := (eqb hk_2); rw [show ((0 : Int32)).toInt = 0 by decide]; omega)
  have eq_ : k_1 = 0 := swe (by have h9_ := (eqb hk_1); rw [show ((0 : Int32)).toInt = 0 by decide]; omega)
  subst en_ ep_ eq_
  obtain ⟨G_6, eG_6⟩ : ∃ N_ : Nat → Int32, N_ = va_cpy U U1 0 0 12 := ⟨_, rfl⟩
  have hG_6 : ivP 12 (-2) 11 G_6 := cpyX_iv hU hU1 eG_6
  refine tCopyG (P0 := fun f => f = U1) (P1 := fun f => f = G_6) (t := 40) (TB1 := (tbC dA dB rA rB rc rd tp ya yb yc yd ye yf rC rD wd1 (xD 12 G_6) (xD 12 U) wd4 ws1 ws2 ws3 ws4 wi1 wi2 wi3 wi4)) F wd_15_6 wd_15_7 wd_15_8 wd_15_9 hK hH hS (tyb ha0 (all1 rfl)) (List.mem_singleton.mp ha1) (by decide) rfl (fun f_ g_ hf_ hg_ => by have h8_ : f_ = U := hf_; have h9_ : g_ = U1 := hg_; show va_cpy f_ g_ 0 0 ((12 : Int32).toNatClampNeg) = _; rw [h8_, h9_, show ((12 : Int32)).toNatClampNeg = 12 by decide]; exact eG_6.symm) rfl (by decide) (by decide) hl.1 (Nat.le_of_ble_eq_true rfl) (Nat.le_of_ble_eq_true rfl) dX6_copyRow_11 (fun H locs hH hS => ?_)
  exact txV F hS dX6_copyRow_14 (⟨G_6, ⟨hG_6, cpyX_at eG_6⟩, hH⟩)
set_option maxHeartbeats 4000000 in
set_option maxRecDepth 100000 in
theorem c_X6_copyRow_ps_2_3 (E : Ev) (dA : TD) (dB : TD) (rA : TD) (rB : TD) (rc : TD) (rd : TD) (tp : TD) (ya : TD) (yb : TD) (yc : TD) (yd : TD) (ye : TD) (yf : TD) (rC : TD) (rD : TD) (wd1 : TD) (wd2 : TD) (wd3 : TD) (wd4 : TD) (ws1 : TD) (ws4 : TD) (wi1 : TD) (wi2 : TD) (wi3 : TD) (wi4 : TD) (U1 : Nat → Int32) (U : Nat → Int32) (a0 : Nat) (a1 : Nat) (ha0 : eT E a0 ∈ [45]) (ha1 : eT E a1 ∈ [44]) (hU1 : ivP 12 (-2147483648) 2147483647 U1) (hU : ivP 12 (-2147483648) 2147483647 U) : TcV E yX6_copyRow cX6_copyRow 2 ({ frames := 1, cells := 0, slots := 0, locals := 40 }) [.ref a0, .ref a1] (fun H => TH E (tbC dA dB rA rB rc rd tp ya yb yc yd ye yf rC rD wd1 wd2 wd3 wd4 ws1 (xD 12 U1) (xD 12 U) ws4 wi1 wi2 wi3 wi4) H) (fun H => ∃ U2 : Nat → Int32, (ivP 12 (-2147483648) 2147483647 U2 ∧ ∀ j : Nat, j < 12 → U2 j = U j) ∧ TH E (tbC dA dB rA rB rc rd tp ya yb yc yd ye yf rC rD wd1 wd2 wd3 wd4 ws1 (xD 12 U2) (xD 12 U) ws4 wi1 wi2 wi3 wi4) H) := by
  refine teV (by decide) (Nat.le_of_ble_eq_true rfl) ?_
  intro p_ ev_ s mi_ below_ meth cd_ ls F hK hN hO hH hS hl
  have hH : TH E (tbC dA dB rA rB rc rd tp ya yb yc yd ye yf rC rD wd1 wd2 wd3 wd4 ws1 (xD 12 U1) (xD 12 U) ws4 wi1 wi2 wi3 wi4) s.heap := hH
  have hl : lv_has ls 2 [(0, .ref a0), (1, .ref a1)] := hl
  refine lv_aload_n F.1 F.2.1 dX6_copyRow_0 rfl (lv_at hl 0 rfl) ?_
  refine lv_iconst (v := 0) F.1 F.2.1 dX6_copyRow_1 (by decide) ?_
  refine topK (a := 0) (by decide) (fun k_1 hk_1 => ?_)
  refine lv_aload_n F.1 F.2.1 dX6_copyRow_2 rfl (lv_at hl 1 rfl) ?_
  refine lv_iconst (v := 0) F.1 F.2.1 dX6_copyRow_3 (by decide) ?_
  refine topK (a := 0) (by decide) (fun k_2 hk_2 => ?_)
  refine lv_aload_n F.1 F.2.1 dX6_copyRow_4 rfl (lv_at hl 0 rfl) ?_
  refine tAlen (v := 12) F hK hH (tyb ha0 (all1 rfl)) rfl (by decide) dX6_copyRow_5 ?_
  refine topK (a := 12) (by decide) (fun k_3 hk_3 => ?_)
  refine lv_aload_n F.1 F.2.1 dX6_copyRow_6 rfl (lv_at hl 1 rfl) ?_
  refine tAlen (v := 12) F hK hH (tyb ha1 (all1 rfl)) rfl (by decide) dX6_copyRow_7 ?_
  refine topK (a := 12) (by decide) (fun k_4 hk_4 => ?_)
  refine tMin (lo := 12) (hi := 12) F wd_15_5 wd_9_0 wd_9_1 wd_9_2 hl.1 (Nat.le_of_ble_eq_true rfl) (Nat.le_of_ble_eq_true rfl) (Nat.le_of_ble_eq_true rfl) (Nat.le_of_ble_eq_true rfl) dX6_copyRow_8 (eqb hk_3) (eqb hk_4) rfl (fun z_5 hz_5 => ?_)
  have en_ : z_5 = 12 := swe (by have h9_ := hz_5.2; rw [show ((12 : Int32)).toInt = 12 by decide]; omega)
  have ep_ : k_2 = 0 := swe (by have h9_ := (eqb hk_2); rw [show ((0 : Int32)).toInt = 0 by decide]; omega)
  have eq_ : k_1 = 0 := swe (by have h9_ := (eqb hk_1); rw [show ((0 : Int32)).toInt = 0 by decide]; omega)
  subst en_ ep_ eq_
  obtain ⟨G_6, eG_6⟩ : ∃ N_ : Nat → Int32, N_ = va_cpy U U1 0 0 12 := ⟨_, rfl⟩
  have hG_6 : ivP 12 (-2147483648) 2147483647 G_6 := cpyX_iv hU hU1 eG_6
  refine tCopyG (P0 := fun f => f = U1) (P1 := fun f => f = G_6) (t := 44) (TB1 := (tbC dA dB rA rB rc rd tp ya yb yc yd ye yf rC rD wd1 wd2 wd3 wd4 ws1 (xD 12 G_6) (xD 12 U) ws4 wi1 wi2 wi3 wi4)) F wd_15_6 wd_15_7 wd_15_8 wd_15_9 hK hH hS (tyb ha0 (all1 rfl)) (List.mem_singleton.mp ha1) (by decide) rfl (fun f_ g_ hf_ hg_ => by have h8_ : f_ = U := hf_; have h9_ : g_ = U1 := hg_; show va_cpy f_ g_ 0 0 ((12 : Int32).toNatClampNeg) = _; rw [h8_, h9_, show ((12 : Int32)).toNatClampNeg = 12 by decide]; exact eG_6.symm) rfl (by decide) (by decide) hl.1 (Nat.le_of_ble_eq_true rfl) (Nat.le_of_ble_eq_true rfl) dX6_copyRow_11 (fun H locs hH hS => ?_)
  exact txV F hS dX6_copyRow_14 (⟨G_6, ⟨hG_6, cpyX_at eG_6⟩, hH⟩)
set_option maxHeartbeats 4000000 in
set_option maxRecDepth 100000 in
theorem c_X6_copyRow_pi_2_3 (E : Ev) (dA : TD) (dB : TD) (rA : TD) (rB : TD) (rc : TD) (rd : TD) (tp : TD) (ya : TD) (yb : TD) (yc : TD) (yd : TD) (ye : TD) (yf : TD) (rC : TD) (rD : TD) (wd1 : TD) (wd2 : TD) (wd3 : TD) (wd4 : TD) (ws1 : TD) (ws2 : TD) (ws3 : TD) (ws4 : TD) (wi1 : TD) (wi4 : TD) (U1 : Nat → Int32) (U : Nat → Int32) (a0 : Nat) (a1 : Nat) (ha0 : eT E a0 ∈ [49]) (ha1 : eT E a1 ∈ [48]) (hU1 : ivP 48 (-2147483648) 2147483647 U1) (hU : ivP 48 (-2147483648) 2147483647 U) : TcV E yX6_copyRow cX6_copyRow 2 ({ frames := 1, cells := 0, slots := 0, locals := 40 }) [.ref a0, .ref a1] (fun H => TH E (tbC dA dB rA rB rc rd tp ya yb yc yd ye yf rC rD wd1 wd2 wd3 wd4 ws1 ws2 ws3 ws4 wi1 (xD 48 U1) (xD 48 U) wi4) H) (fun H => ∃ U2 : Nat → Int32, (ivP 48 (-2147483648) 2147483647 U2 ∧ ∀ j : Nat, j < 48 → U2 j = U j) ∧ TH E (tbC dA dB rA rB rc rd tp ya yb yc yd ye yf rC rD wd1 wd2 wd3 wd4 ws1 ws2 ws3 ws4 wi1 (xD 48 U2) (xD 48 U) wi4) H) := by
  refine teV (by decide) (Nat.le_of_ble_eq_true rfl) ?_
  intro p_ ev_ s mi_ below_ meth cd_ ls F hK hN hO hH hS hl
  have hH : TH E (tbC dA dB rA rB rc rd tp ya yb yc yd ye yf rC rD wd1 wd2 wd3 wd4 ws1 ws2 ws3 ws4 wi1 (xD 48 U1) (xD 48 U) wi4) s.heap := hH
  have hl : lv_has ls 2 [(0, .ref a0), (1, .ref a1)] := hl
  refine lv_aload_n F.1 F.2.1 dX6_copyRow_0 rfl (lv_at hl 0 rfl) ?_
  refine lv_iconst (v := 0) F.1 F.2.1 dX6_copyRow_1 (by decide) ?_
  refine topK (a := 0) (by decide) (fun k_1 hk_1 => ?_)
  refine lv_aload_n F.1 F.2.1 dX6_copyRow_2 rfl (lv_at hl 1 rfl) ?_
  refine lv_iconst (v := 0) F.1 F.2.1 dX6_copyRow_3 (by decide) ?_
  refine topK (a := 0) (by decide) (fun k_2 hk_2 => ?_)
  refine lv_aload_n F.1 F.2.1 dX6_copyRow_4 rfl (lv_at hl 0 rfl) ?_
  refine tAlen (v := 48) F hK hH (tyb ha0 (all1 rfl)) rfl (by decide) dX6_copyRow_5 ?_
  refine topK (a := 48) (by decide) (fun k_3 hk_3 => ?_)
  refine lv_aload_n F.1 F.2.1 dX6_copyRow_6 rfl (lv_at hl 1 rfl) ?_
  refine tAlen (v := 48) F hK hH (tyb ha1 (all1 rfl)) rfl (by decide) dX6_copyRow_7 ?_
  refine topK (a := 48) (by decide) (fun k_4 hk_4 => ?_)
  refine tMin (lo := 48) (hi := 48) F wd_15_5 wd_9_0 wd_9_1 wd_9_2 hl.1 (Nat.le_of_ble_eq_true rfl) (Nat.le_of_ble_eq_true rfl) (Nat.le_of_ble_eq_true rfl) (Nat.le_of_ble_eq_true rfl) dX6_copyRow_8 (eqb hk_3) (eqb hk_4) rfl (fun z_5 hz_5 => ?_)
  have en_ : z_5 = 48 := swe (by have h9_ := hz_5.2; rw [show ((48 : Int32)).toInt = 48 by decide]; omega)
  have ep_ : k_2 = 0 := swe (by have h9_ := (eqb hk_2); rw [show ((0 : Int32)).toInt = 0 by decide]; omega)
  have eq_ : k_1 = 0 := swe (by have h9_ := (eqb hk_1); rw [show ((0 : Int32)).toInt = 0 by decide]; omega)
  subst en_ ep_ eq_
  obtain ⟨G_6, eG_6⟩ : ∃ N_ : Nat → Int32, N_ = va_cpy U U1 0 0 48 := ⟨_, rfl⟩
  have hG_6 : ivP 48 (-2147483648) 2147483647 G_6 := cpyX_iv hU hU1 eG_6
  refine tCopyG (P0 := fun f => f = U1) (P1 := fun f => f = G_6) (t := 48) (TB1 := (tbC dA dB rA rB rc rd tp ya yb yc yd ye yf rC rD wd1 wd2 wd3 wd4 ws1 ws2 ws3 ws4 wi1 (xD 48 G_6) (xD 48 U) wi4)) F wd_15_6 wd_15_7 wd_15_8 wd_15_9 hK hH hS (tyb ha0 (all1 rfl)) (List.mem_singleton.mp ha1) (by decide) rfl (fun f_ g_ hf_ hg_ => by have h8_ : f_ = U := hf_; have h9_ : g_ = U1 := hg_; show va_cpy f_ g_ 0 0 ((48 : Int32).toNatClampNeg) = _; rw [h8_, h9_, show ((48 : Int32)).toNatClampNeg = 48 by decide]; exact eG_6.symm) rfl (by decide) (by decide) hl.1 (Nat.le_of_ble_eq_true rfl) (Nat.le_of_ble_eq_true rfl) dX6_copyRow_11 (fun H locs hH hS => ?_)
  exact txV F hS dX6_copyRow_14 (⟨G_6, ⟨hG_6, cpyX_at eG_6⟩, hH⟩)
set_option maxHeartbeats 4000000 in
set_option maxRecDepth 100000 in
theorem c_X6_copyRow_pd_2_4 (E : Ev) (dA : TD) (dB : TD) (rA : TD) (rB : TD) (rc : TD) (rd : TD) (tp : TD) (ya : TD) (yb : TD) (yc : TD) (yd : TD) (ye : TD) (yf : TD) (rC : TD) (rD : TD) (wd1 : TD) (wd3 : TD) (ws1 : TD) (ws2 : TD) (ws3 : TD) (ws4 : TD) (wi1 : TD) (wi2 : TD) (wi3 : TD) (wi4 : TD) (U1 : Nat → Int32) (U : Nat → Int32) (a0 : Nat) (a1 : Nat) (ha0 : eT E a0 ∈ [42]) (ha1 : eT E a1 ∈ [40]) (hU1 : ivP 12 (-2) 11 U1) (hU : ivP 12 (-2) 11 U) : TcV E yX6_copyRow cX6_copyRow 2 ({ frames := 1, cells := 0, slots := 0, locals := 40 }) [.ref a0, .ref a1] (fun H => TH E (tbC dA dB rA rB rc rd tp ya yb yc yd ye yf rC rD wd1 (xD 12 U1) wd3 (xD 12 U) ws1 ws2 ws3 ws4 wi1 wi2 wi3 wi4) H) (fun H => ∃ U2 : Nat → Int32, (ivP 12 (-2) 11 U2 ∧ ∀ j : Nat, j < 12 → U2 j = U j) ∧ TH E (tbC dA dB rA rB rc rd tp ya yb yc yd ye yf rC rD wd1 (xD 12 U2) wd3 (xD 12 U) ws1 ws2 ws3 ws4 wi1 wi2 wi3 wi4) H) := by
  refine teV (by decide) (Nat.le_of_ble_eq_true rfl) ?_
  intro p_ ev_ s mi_ below_ meth cd_ ls F hK hN hO hH hS hl
  have hH : TH E (tbC dA dB rA rB rc rd tp ya yb yc yd ye yf rC rD wd1 (xD 12 U1) wd3 (xD 12 U) ws1 ws2 ws3 ws4 wi1 wi2 wi3 wi4) s.heap := hH
  have hl : lv_has ls 2 [(0, .ref a0), (1, .ref a1)] := hl
  refine lv_aload_n F.1 F.2.1 dX6_copyRow_0 rfl (lv_at hl 0 rfl) ?_
  refine lv_iconst (v := 0) F.1 F.2.1 dX6_copyRow_1 (by decide) ?_
  refine topK (a := 0) (by decide) (fun k_1 hk_1 => ?_)
  refine lv_aload_n F.1 F.2.1 dX6_copyRow_2 rfl (lv_at hl 1 rfl) ?_
  refine lv_iconst (v := 0) F.1 F.2.1 dX6_copyRow_3 (by decide) ?_
  refine topK (a := 0) (by decide) (fun k_2 hk_2 => ?_)
  refine lv_aload_n F.1 F.2.1 dX6_copyRow_4 rfl (lv_at hl 0 rfl) ?_
  refine tAlen (v := 12) F hK hH (tyb ha0 (all1 rfl)) rfl (by decide) dX6_copyRow_5 ?_
  refine topK (a := 12) (by decide) (fun k_3 hk_3 => ?_)
  refine lv_aload_n F.1 F.2.1 dX6_copyRow_6 rfl (lv_at hl 1 rfl) ?_
  refine tAlen (v := 12) F hK hH (tyb ha1 (all1 rfl)) rfl (by decide) dX6_copyRow_7 ?_
  refine topK (a := 12) (by decide) (fun k_4 hk_4 => ?_)
  refine tMin (lo := 12) (hi := 12) F wd_15_5 wd_9_0 wd_9_1 wd_9_2 hl.1 (Nat.le_of_ble_eq_true rfl) (Nat.le_of_ble_eq_true rfl) (Nat.le_of_ble_eq_true rfl) (Nat.le_of_ble_eq_true rfl) dX6_copyRow_8 (eqb hk_3) (eqb hk_4) rfl (fun z_5 hz_5 => ?_)
  have en_ : z_5 = 12 := swe (by have h9_ := hz_5.2; rw [show ((12 : Int32)).toInt = 12 by decide]; omega)
  have ep_ : k_2 = 0 := swe (by have h9_ := (eqb hk_2); rw [show ((0 : Int32)).toInt = 0 by decide]; omega)
  have eq_ : k_1 = 0 := swe (by have h9_ := (eqb hk_1); rw [show ((0 : Int32)).toInt = 0 by decide]; omega)
  subst en_ ep_ eq_
  obtain ⟨G_6, eG_6⟩ : ∃ N_ : Nat → Int32, N_ = va_cpy U U1 0 0 12 := ⟨_, rfl⟩
  have hG_6 : ivP 12 (-2) 11 G_6 := cpyX_iv hU hU1 eG_6
  refine tCopyG (P0 := fun f => f = U1) (P1 := fun f => f = G_6) (t := 40) (TB1 := (tbC dA dB rA rB rc rd tp ya yb yc yd ye yf rC rD wd1 (xD 12 G_6) wd3 (xD 12 U) ws1 ws2 ws3 ws4 wi1 wi2 wi3 wi4)) F wd_15_6 wd_15_7 wd_15_8 wd_15_9 hK hH hS (tyb ha0 (all1 rfl)) (List.mem_singleton.mp ha1) (by decide) rfl (fun f_ g_ hf_ hg_ => by have h8_ : f_ = U := hf_; have h9_ : g_ = U1 := hg_; show va_cpy f_ g_ 0 0 ((12 : Int32).toNatClampNeg) = _; rw [h8_, h9_, show ((12 : Int32)).toNatClampNeg = 12 by decide]; exact eG_6.symm) rfl (by decide) (by decide) hl.1 (Nat.le_of_ble_eq_true rfl) (Nat.le_of_ble_eq_true rfl) dX6_copyRow_11 (fun H locs hH hS => ?_)
  exact txV F hS dX6_copyRow_14 (⟨G_6, ⟨hG_6, cpyX_at eG_6⟩, hH⟩)
set_option maxHeartbeats 4000000 in
set_option maxRecDepth 100000 in
theorem c_X6_copyRow_ps_2_4 (E : Ev) (dA : TD) (dB : TD) (rA : TD) (rB : TD) (rc : TD) (rd : TD) (tp : TD) (ya : TD) (yb : TD) (yc : TD) (yd : TD) (ye : TD) (yf : TD) (rC : TD) (rD : TD) (wd1 : TD) (wd2 : TD) (wd3 : TD) (wd4 : TD) (ws1 : TD) (ws3 : TD) (wi1 : TD) (wi2 : TD) (wi3 : TD) (wi4 : TD) (U1 : Nat → Int32) (U : Nat → Int32) (a0 : Nat) (a1 : Nat) (ha0 : eT E a0 ∈ [46]) (ha1 : eT E a1 ∈ [44]) (hU1 : ivP 12 (-2147483648) 2147483647 U1) (hU : ivP 12 (-2147483648) 2147483647 U) : TcV E yX6_copyRow cX6_copyRow 2 ({ frames := 1, cells := 0, slots := 0, locals := 40 }) [.ref a0, .ref a1] (fun H => TH E (tbC dA dB rA rB rc rd tp ya yb yc yd ye yf rC rD wd1 wd2 wd3 wd4 ws1 (xD 12 U1) ws3 (xD 12 U) wi1 wi2 wi3 wi4) H) (fun H => ∃ U2 : Nat → Int32, (ivP 12 (-2147483648) 2147483647 U2 ∧ ∀ j : Nat, j < 12 → U2 j = U j) ∧ TH E (tbC dA dB rA rB rc rd tp ya yb yc yd ye yf rC rD wd1 wd2 wd3 wd4 ws1 (xD 12 U2) ws3 (xD 12 U) wi1 wi2 wi3 wi4) H) := by
  refine teV (by decide) (Nat.le_of_ble_eq_true rfl) ?_
  intro p_ ev_ s mi_ below_ meth cd_ ls F hK hN hO hH hS hl
  have hH : TH E (tbC dA dB rA rB rc rd tp ya yb yc yd ye yf rC rD wd1 wd2 wd3 wd4 ws1 (xD 12 U1) ws3 (xD 12 U) wi1 wi2 wi3 wi4) s.heap := hH
  have hl : lv_has ls 2 [(0, .ref a0), (1, .ref a1)] := hl
  refine lv_aload_n F.1 F.2.1 dX6_copyRow_0 rfl (lv_at hl 0 rfl) ?_
  refine lv_iconst (v := 0) F.1 F.2.1 dX6_copyRow_1 (by decide) ?_
  refine topK (a := 0) (by decide) (fun k_1 hk_1 => ?_)
  refine lv_aload_n F.1 F.2.1 dX6_copyRow_2 rfl (lv_at hl 1 rfl) ?_
  refine lv_iconst (v := 0) F.1 F.2.1 dX6_copyRow_3 (by decide) ?_
  refine topK (a := 0) (by decide) (fun k_2 hk_2 => ?_)
  refine lv_aload_n F.1 F.2.1 dX6_copyRow_4 rfl (lv_at hl 0 rfl) ?_
  refine tAlen (v := 12) F hK hH (tyb ha0 (all1 rfl)) rfl (by decide) dX6_copyRow_5 ?_
  refine topK (a := 12) (by decide) (fun k_3 hk_3 => ?_)
  refine lv_aload_n F.1 F.2.1 dX6_copyRow_6 rfl (lv_at hl 1 rfl) ?_
  refine tAlen (v := 12) F hK hH (tyb ha1 (all1 rfl)) rfl (by decide) dX6_copyRow_7 ?_
  refine topK (a := 12) (by decide) (fun k_4 hk_4 => ?_)
  refine tMin (lo := 12) (hi := 12) F wd_15_5 wd_9_0 wd_9_1 wd_9_2 hl.1 (Nat.le_of_ble_eq_true rfl) (Nat.le_of_ble_eq_true rfl) (Nat.le_of_ble_eq_true rfl) (Nat.le_of_ble_eq_true rfl) dX6_copyRow_8 (eqb hk_3) (eqb hk_4) rfl (fun z_5 hz_5 => ?_)
  have en_ : z_5 = 12 := swe (by have h9_ := hz_5.2; rw [show ((12 : Int32)).toInt = 12 by decide]; omega)
  have ep_ : k_2 = 0 := swe (by have h9_ := (eqb hk_2); rw [show ((0 : Int32)).toInt = 0 by decide]; omega)
  have eq_ : k_1 = 0 := swe (by have h9_ := (eqb hk_1); rw [show ((0 : Int32)).toInt = 0 by decide]; omega)
  subst en_ ep_ eq_
  obtain ⟨G_6, eG_6⟩ : ∃ N_ : Nat → Int32, N_ = va_cpy U U1 0 0 12 := ⟨_, rfl⟩
  have hG_6 : ivP 12 (-2147483648) 2147483647 G_6 := cpyX_iv hU hU1 eG_6
  refine tCopyG (P0 := fun f => f = U1) (P1 := fun f => f = G_6) (t := 44) (TB1 := (tbC dA dB rA rB rc rd tp ya yb yc yd ye yf rC rD wd1 wd2 wd3 wd4 ws1 (xD 12 G_6) ws3 (xD 12 U) wi1 wi2 wi3 wi4)) F wd_15_6 wd_15_7 wd_15_8 wd_15_9 hK hH hS (tyb ha0 (all1 rfl)) (List.mem_singleton.mp ha1) (by decide) rfl (fun f_ g_ hf_ hg_ => by have h8_ : f_ = U := hf_; have h9_ : g_ = U1 := hg_; show va_cpy f_ g_ 0 0 ((12 : Int32).toNatClampNeg) = _; rw [h8_, h9_, show ((12 : Int32)).toNatClampNeg = 12 by decide]; exact eG_6.symm) rfl (by decide) (by decide) hl.1 (Nat.le_of_ble_eq_true rfl) (Nat.le_of_ble_eq_true rfl) dX6_copyRow_11 (fun H locs hH hS => ?_)
  exact txV F hS dX6_copyRow_14 (⟨G_6, ⟨hG_6, cpyX_at eG_6⟩, hH⟩)
set_option maxHeartbeats 4000000 in
set_option maxRecDepth 100000 in
theorem c_X6_copyRow_pi_2_4 (E : Ev) (dA : TD) (dB : TD) (rA : TD) (rB : TD) (rc : TD) (rd : TD) (tp : TD) (ya : TD) (yb : TD) (yc : TD) (yd : TD) (ye : TD) (yf : TD) (rC : TD) (rD : TD) (wd1 : TD) (wd2 : TD) (wd3 : TD) (wd4 : TD) (ws1 : TD) (ws2 : TD) (ws3 : TD) (ws4 : TD) (wi1 : TD) (wi3 : TD) (U1 : Nat → Int32) (U : Nat → Int32) (a0 : Nat) (a1 : Nat) (ha0 : eT E a0 ∈ [50]) (ha1 : eT E a1 ∈ [48]) (hU1 : ivP 48 (-2147483648) 2147483647 U1) (hU : ivP 48 (-2147483648) 2147483647 U) : TcV E yX6_copyRow cX6_copyRow 2 ({ frames := 1, cells := 0, slots := 0, locals := 40 }) [.ref a0, .ref a1] (fun H => TH E (tbC dA dB rA rB rc rd tp ya yb yc yd ye yf rC rD wd1 wd2 wd3 wd4 ws1 ws2 ws3 ws4 wi1 (xD 48 U1) wi3 (xD 48 U)) H) (fun H => ∃ U2 : Nat → Int32, (ivP 48 (-2147483648) 2147483647 U2 ∧ ∀ j : Nat, j < 48 → U2 j = U j) ∧ TH E (tbC dA dB rA rB rc rd tp ya yb yc yd ye yf rC rD wd1 wd2 wd3 wd4 ws1 ws2 ws3 ws4 wi1 (xD 48 U2) wi3 (xD 48 U)) H) := by
  refine teV (by decide) (Nat.le_of_ble_eq_true rfl) ?_
  intro p_ ev_ s mi_ below_ meth cd_ ls F hK hN hO hH hS hl
  have hH : TH E (tbC dA dB rA rB rc rd tp ya yb yc yd ye yf rC rD wd1 wd2 wd3 wd4 ws1 ws2 ws3 ws4 wi1 (xD 48 U1) wi3 (xD 48 U)) s.heap := hH
  have hl : lv_has ls 2 [(0, .ref a0), (1, .ref a1)] := hl
  refine lv_aload_n F.1 F.2.1 dX6_copyRow_0 rfl (lv_at hl 0 rfl) ?_
  refine lv_iconst (v := 0) F.1 F.2.1 dX6_copyRow_1 (by decide) ?_
  refine topK (a := 0) (by decide) (fun k_1 hk_1 => ?_)
  refine lv_aload_n F.1 F.2.1 dX6_copyRow_2 rfl (lv_at hl 1 rfl) ?_
  refine lv_iconst (v := 0) F.1 F.2.1 dX6_copyRow_3 (by decide) ?_
  refine topK (a := 0) (by decide) (fun k_2 hk_2 => ?_)
  refine lv_aload_n F.1 F.2.1 dX6_copyRow_4 rfl (lv_at hl 0 rfl) ?_
  refine tAlen (v := 48) F hK hH (tyb ha0 (all1 rfl)) rfl (by decide) dX6_copyRow_5 ?_
  refine topK (a := 48) (by decide) (fun k_3 hk_3 => ?_)
  refine lv_aload_n F.1 F.2.1 dX6_copyRow_6 rfl (lv_at hl 1 rfl) ?_
  refine tAlen (v := 48) F hK hH (tyb ha1 (all1 rfl)) rfl (by decide) dX6_copyRow_7 ?_
  refine topK (a := 48) (by decide) (fun k_4 hk_4 => ?_)
  refine tMin (lo := 48) (hi := 48) F wd_15_5 wd_9_0 wd_9_1 wd_9_2 hl.1 (Nat.le_of_ble_eq_true rfl) (Nat.le_of_ble_eq_true rfl) (Nat.le_of_ble_eq_true rfl) (Nat.le_of_ble_eq_true rfl) dX6_copyRow_8 (eqb hk_3) (eqb hk_4) rfl (fun z_5 hz_5 => ?_)
  have en_ : z_5 = 48 := swe (by have h9_ := hz_5.2; rw [show ((48 : Int32)).toInt = 48 by decide]; omega)
  have ep_ : k_2 = 0 := swe (by have h9_ := (eqb hk_2); rw [show ((0 : Int32)).toInt = 0 by decide]; omega)
  have eq_ : k_1 = 0 := swe (by have h9_ := (eqb hk_1); rw [show ((0 : Int32)).toInt = 0 by decide]; omega)
  subst en_ ep_ eq_
  obtain ⟨G_6, eG_6⟩ : ∃ N_ : Nat → Int32, N_ = va_cpy U U1 0 0 48 := ⟨_, rfl⟩
  have hG_6 : ivP 48 (-2147483648) 2147483647 G_6 := cpyX_iv hU hU1 eG_6
  refine tCopyG (P0 := fun f => f = U1) (P1 := fun f => f = G_6) (t := 48) (TB1 := (tbC dA dB rA rB rc rd tp ya yb yc yd ye yf rC rD wd1 wd2 wd3 wd4 ws1 ws2 ws3 ws4 wi1 (xD 48 G_6) wi3 (xD 48 U))) F wd_15_6 wd_15_7 wd_15_8 wd_15_9 hK hH hS (tyb ha0 (all1 rfl)) (List.mem_singleton.mp ha1) (by decide) rfl (fun f_ g_ hf_ hg_ => by have h8_ : f_ = U := hf_; have h9_ : g_ = U1 := hg_; show va_cpy f_ g_ 0 0 ((48 : Int32).toNatClampNeg) = _; rw [h8_, h9_, show ((48 : Int32)).toNatClampNeg = 48 by decide]; exact eG_6.symm) rfl (by decide) (by decide) hl.1 (Nat.le_of_ble_eq_true rfl) (Nat.le_of_ble_eq_true rfl) dX6_copyRow_11 (fun H locs hH hS => ?_)
  exact txV F hS dX6_copyRow_14 (⟨G_6, ⟨hG_6, cpyX_at eG_6⟩, hH⟩)
set_option maxHeartbeats 4000000 in
set_option maxRecDepth 100000 in
theorem c_X2_copyOfx_37_26 (E : Ev) (dA : TD) (dB : TD) (rB : TD) (rc : TD) (rd : TD) (tp : TD) (rD : TD) (wd2 : TD) (wd4 : TD) (ws2 : TD) (ws4 : TD) (wi2 : TD) (wi4 : TD) (Fa3 : Int × Int) (Fb3 : Int × Int) (a : Int) (b : Int) (D : Nat → Int32) (D1 : Nat → Int32) (Kn : Nat → Int32) (Kn1 : Nat → Int32) (Q : Nat → Int32) (Q1 : Nat → Int32) (a0 : Nat) (a1 : Nat) (ha0 : eT E a0 ∈ [37]) (ha1 : eT E a1 ∈ [26]) (ha : 0 ≤ a ∧ a ≤ 12) (hb : 0 ≤ b ∧ b ≤ 14) (hD : ivP 12 (-2) 11 D) (hD1 : ivP 12 (-2) 11 D1) (hKn : ivP 12 (-2147483648) 2147483647 Kn) (hKn1 : ivP 12 (-2147483648) 2147483647 Kn1) (hQ : ivP 48 (-2147483648) 2147483647 Q) (hQ1 : ivP 48 (-2147483648) 2147483647 Q1) (hFa3 : 0 ≤ Fa3.1 ∧ Fa3.2 ≤ 12) (hFb3 : 0 ≤ Fb3.1 ∧ Fb3.2 ≤ 14) : TcV E yX2_copyOf cX2_copyOf 2 ({ frames := 2, cells := 0, slots := 0, locals := 61 }) [.ref a0, .ref a1] (fun H => TH E (tbC dA dB (riverD (.inl (a, a)) (.inl (b, b)) (.inl (0, 4)) 31 33 35 39 43 47) rB rc rd tp A14F A14F A4F A4F A14F A14F (riverD (.inl Fa3) (.inl Fb3) (.inl (0, 4)) 3 8 3 41 45 49) rD (xD 12 D) wd2 (xD 12 D1) wd4 (xD 12 Kn) ws2 (xD 12 Kn1) ws4 (xD 48 Q) wi2 (xD 48 Q1) wi4) H) (fun H => ∃ D2 : Nat → Int32, (ivP 12 (-2) 11 D2 ∧ ∀ j : Nat, j < 12 → D2 j = D j) ∧ ∃ Kn2 : Nat → Int32, (ivP 12 (-2147483648) 2147483647 Kn2 ∧ ∀ j : Nat, j < 12 → Kn2 j = Kn j) ∧ ∃ Q2 : Nat → Int32, (ivP 48 (-2147483648) 2147483647 Q2 ∧ ∀ j : Nat, j < 48 → Q2 j = Q j) ∧ TH E (tbC dA dB (riverD (.inl (a, a)) (.inl (b, b)) (.inl (0, 4)) 31 33 35 39 43 47) rB rc rd tp A14F A14F A4F A4F A14F A14F (riverD (.inl (a, a)) (.inl (b, b)) (.inl (0, 4)) 3 8 3 41 45 49) rD (xD 12 D) wd2 (xD 12 D2) wd4 (xD 12 Kn) ws2 (xD 12 Kn2) ws4 (xD 48 Q) wi2 (xD 48 Q2) wi4) H) := by
  refine teV (by decide) (Nat.le_of_ble_eq_true rfl) ?_
  intro p_ ev_ s mi_ below_ meth cd_ ls F hK hN hO hH hS hl
  have hH : TH E (tbC dA dB (riverD (.inl (a, a)) (.inl (b, b)) (.inl (0, 4)) 31 33 35 39 43 47) rB rc rd tp A14F A14F A4F A4F A14F A14F (riverD (.inl Fa3) (.inl Fb3) (.inl (0, 4)) 3 8 3 41 45 49) rD (xD 12 D) wd2 (xD 12 D1) wd4 (xD 12 Kn) ws2 (xD 12 Kn1) ws4 (xD 48 Q) wi2 (xD 48 Q1) wi4) s.heap := hH
  have hl : lv_has ls 2 [(0, .ref a0), (1, .ref a1)] := hl
  refine lv_aload_n F.1 F.2.1 dX2_copyOf_0 rfl (lv_at hl 0 rfl) ?_
  refine lv_aload_n F.1 F.2.1 dX2_copyOf_1 rfl (lv_at hl 1 rfl) ?_
  refine tGetI (j := 0) F hK hH (tyb ha1 (all1 rfl)) rfl clX2 (by decide) wd_9_11 dX2_copyOf_2 (fun z_1 hz_1 => ?_)
  have ez_1 : 0 ≤ z_1.toInt ∧ z_1.toInt ≤ 12 := by omega
  refine tPutG (j := 0) (t := 37) (fd := (.inl (a, a))) F hK hH hS (List.mem_singleton.mp ha0) (by decide) rfl rfl (fdI (by omega)) (TB1 := (tbC dA dB (riverD (.inl (a, a)) (.inl (b, b)) (.inl (0, 4)) 31 33 35 39 43 47) rB rc rd tp A14F A14F A4F A4F A14F A14F (riverD (.inl (a, a)) (.inl Fb3) (.inl (0, 4)) 3 8 3 41 45 49) rD (xD 12 D) wd2 (xD 12 D1) wd4 (xD 12 Kn) ws2 (xD 12 Kn1) ws4 (xD 48 Q) wi2 (xD 48 Q1) wi4)) rfl clX2 (by decide) wd_9_11 rfl rfl rfl rfl dX2_copyOf_5 (fun H locs hH hS => ?_)
  refine lv_aload_n F.1 F.2.1 dX2_copyOf_8 rfl (lv_at hl 0 rfl) ?_
  refine lv_aload_n F.1 F.2.1 dX2_copyOf_9 rfl (lv_at hl 1 rfl) ?_
  refine tGetI (j := 4) F hK hH (tyb ha1 (all1 rfl)) rfl clX2 (by decide) wd_9_12 dX2_copyOf_10 (fun z_2 hz_2 => ?_)
  have ez_2 : 0 ≤ z_2.toInt ∧ z_2.toInt ≤ 14 := by omega
  refine tPutG (j := 4) (t := 37) (fd := (.inl (b, b))) F hK hH hS (List.mem_singleton.mp ha0) (by decide) rfl rfl (fdI (by omega)) (TB1 := (tbC dA dB (riverD (.inl (a, a)) (.inl (b, b)) (.inl (0, 4)) 31 33 35 39 43 47) rB rc rd tp A14F A14F A4F A4F A14F A14F (riverD (.inl (a, a)) (.inl (b, b)) (.inl (0, 4)) 3 8 3 41 45 49) rD (xD 12 D) wd2 (xD 12 D1) wd4 (xD 12 Kn) ws2 (xD 12 Kn1) ws4 (xD 48 Q) wi2 (xD 48 Q1) wi4)) rfl clX2 (by decide) wd_9_12 rfl rfl rfl rfl dX2_copyOf_13 (fun H locs hH hS => ?_)
  refine lv_aload_n F.1 F.2.1 dX2_copyOf_16 rfl (lv_at hl 0 rfl) ?_
  refine lv_aload_n F.1 F.2.1 dX2_copyOf_17 rfl (lv_at hl 1 rfl) ?_
  refine tGetI (j := 14) F hK hH (tyb ha1 (all1 rfl)) rfl clX2 (by decide) wd_9_13 dX2_copyOf_18 (fun z_3 hz_3 => ?_)
  refine tPut (j := 14) F hK hH hS (tyb ha0 (all1 rfl)) rfl (fdI hz_3) clX2 (by decide) wd_9_13 rfl rfl rfl rfl dX2_copyOf_21 (fun H locs hH hS => ?_)
  refine lv_aload_n F.1 F.2.1 dX2_copyOf_24 rfl (lv_at hl 0 rfl) ?_
  refine lv_aload_n F.1 F.2.1 dX2_copyOf_25 rfl (lv_at hl 1 rfl) ?_
  refine tGetI (j := 19) F hK hH (tyb ha1 (all1 rfl)) rfl clX2 (by decide) wd_3_15 dX2_copyOf_26 (fun z_4 hz_4 => ?_)
  refine tPut (j := 19) F hK hH hS (tyb ha0 (all1 rfl)) rfl (fdI hz_4) clX2 (by decide) wd_3_15 rfl rfl rfl rfl dX2_copyOf_29 (fun H locs hH hS => ?_)
  refine lv_aload_n F.1 F.2.1 dX2_copyOf_32 rfl (lv_at hl 1 rfl) ?_
  refine tGetR (j := 1) F hK hH (tyb ha1 (all1 rfl)) rfl (all1 rfl) clX2 (by decide) wd_2_23 dX2_copyOf_33 (fun q_5 hq_5 _ => ?_)
  refine lv_aload_n F.1 F.2.1 dX2_copyOf_36 rfl (lv_at hl 0 rfl) ?_
  refine tGetR (j := 1) F hK hH (tyb ha0 (all1 rfl)) rfl (all1 rfl) clX2 (by decide) wd_2_23 dX2_copyOf_37 (fun q_6 hq_6 _ => ?_)
  refine tNv (host := RX6) (As := [.ref q_5, .ref q_6]) (rest := []) F hK hN hO (c_X6_copyRow_pd_3_1 E dA dB (riverD (.inl (a, a)) (.inl (b, b)) (.inl (0, 4)) 31 33 35 39 43 47) rB rc rd tp A14F A14F A4F A4F A14F A14F (riverD (.inl (a, a)) (.inl (b, b)) (.inl (0, 4)) 3 8 3 41 45 49) rD wd2 wd4 (xD 12 Kn) ws2 (xD 12 Kn1) ws4 (xD 48 Q) wi2 (xD 48 Q1) wi4 D D1 q_5 q_6 hq_5 hq_6 hD hD1) ms_X6_copyRow hN.1.2.2.2.2.2 ⟨Nat.le_of_ble_eq_true rfl, Nat.le_of_ble_eq_true rfl⟩ ⟨Nat.le_of_ble_eq_true rfl, Nat.le_of_ble_eq_true rfl⟩ hH hS rfl hl.1 (Nat.le_of_ble_eq_true rfl) dX2_copyOf_40 (fun H locs hq hS => ?_)
  obtain ⟨g_8, hg_8, hH⟩ := hq
  have hH : TH E (tbC dA dB (riverD (.inl (a, a)) (.inl (b, b)) (.inl (0, 4)) 31 33 35 39 43 47) rB rc rd tp A14F A14F A4F A4F A14F A14F (riverD (.inl (a, a)) (.inl (b, b)) (.inl (0, 4)) 3 8 3 41 45 49) rD (xD 12 D) wd2 (xD 12 g_8) wd4 (xD 12 Kn) ws2 (xD 12 Kn1) ws4 (xD 48 Q) wi2 (xD 48 Q1) wi4) H := hH
  refine lv_aload_n F.1 F.2.1 dX2_copyOf_43 rfl (lv_at hl 1 rfl) ?_
  refine tGetR (j := 2) F hK hH (tyb ha1 (all1 rfl)) rfl (all1 rfl) clX2 (by decide) wd_3_0 dX2_copyOf_44 (fun q_9 hq_9 _ => ?_)
  refine lv_aload_n F.1 F.2.1 dX2_copyOf_47 rfl (lv_at hl 0 rfl) ?_
  refine tGetR (j := 2) F hK hH (tyb ha0 (all1 rfl)) rfl (all1 rfl) clX2 (by decide) wd_3_0 dX2_copyOf_48 (fun q_10 hq_10 _ => ?_)
  refine tNv (host := RX6) (As := [.ref q_9, .ref q_10]) (rest := []) F hK hN hO (c_X6_copyRow_ps_3_1 E dA dB (riverD (.inl (a, a)) (.inl (b, b)) (.inl (0, 4)) 31 33 35 39 43 47) rB rc rd tp A14F A14F A4F A4F A14F A14F (riverD (.inl (a, a)) (.inl (b, b)) (.inl (0, 4)) 3 8 3 41 45 49) rD (xD 12 D) wd2 (xD 12 g_8) wd4 ws2 ws4 (xD 48 Q) wi2 (xD 48 Q1) wi4 Kn Kn1 q_9 q_10 hq_9 hq_10 hKn hKn1) ms_X6_copyRow hN.1.2.2.2.2.2 ⟨Nat.le_of_ble_eq_true rfl, Nat.le_of_ble_eq_true rfl⟩ ⟨Nat.le_of_ble_eq_true rfl, Nat.le_of_ble_eq_true rfl⟩ hH hS rfl hl.1 (Nat.le_of_ble_eq_true rfl) dX2_copyOf_51 (fun H locs hq hS => ?_)
  obtain ⟨g_12, hg_12, hH⟩ := hq
  have hH : TH E (tbC dA dB (riverD (.inl (a, a)) (.inl (b, b)) (.inl (0, 4)) 31 33 35 39 43 47) rB rc rd tp A14F A14F A4F A4F A14F A14F (riverD (.inl (a, a)) (.inl (b, b)) (.inl (0, 4)) 3 8 3 41 45 49) rD (xD 12 D) wd2 (xD 12 g_8) wd4 (xD 12 Kn) ws2 (xD 12 g_12) ws4 (xD 48 Q) wi2 (xD 48 Q1) wi4) H := hH
  refine lv_aload_n F.1 F.2.1 dX2_copyOf_54 rfl (lv_at hl 1 rfl) ?_
  refine tGetR (j := 3) F hK hH (tyb ha1 (all1 rfl)) rfl (all1 rfl) clX2 (by decide) wd_3_1 dX2_copyOf_55 (fun q_13 hq_13 _ => ?_)
  refine lv_aload_n F.1 F.2.1 dX2_copyOf_58 rfl (lv_at hl 0 rfl) ?_
  refine tGetR (j := 3) F hK hH (tyb ha0 (all1 rfl)) rfl (all1 rfl) clX2 (by decide) wd_3_1 dX2_copyOf_59 (fun q_14 hq_14 _ => ?_)
  refine tNv (host := RX6) (As := [.ref q_13, .ref q_14]) (rest := []) F hK hN hO (c_X6_copyRow_pi_3_1 E dA dB (riverD (.inl (a, a)) (.inl (b, b)) (.inl (0, 4)) 31 33 35 39 43 47) rB rc rd tp A14F A14F A4F A4F A14F A14F (riverD (.inl (a, a)) (.inl (b, b)) (.inl (0, 4)) 3 8 3 41 45 49) rD (xD 12 D) wd2 (xD 12 g_8) wd4 (xD 12 Kn) ws2 (xD 12 g_12) ws4 wi2 wi4 Q Q1 q_13 q_14 hq_13 hq_14 hQ hQ1) ms_X6_copyRow hN.1.2.2.2.2.2 ⟨Nat.le_of_ble_eq_true rfl, Nat.le_of_ble_eq_true rfl⟩ ⟨Nat.le_of_ble_eq_true rfl, Nat.le_of_ble_eq_true rfl⟩ hH hS rfl hl.1 (Nat.le_of_ble_eq_true rfl) dX2_copyOf_62 (fun H locs hq hS => ?_)
  obtain ⟨g_16, hg_16, hH⟩ := hq
  have hH : TH E (tbC dA dB (riverD (.inl (a, a)) (.inl (b, b)) (.inl (0, 4)) 31 33 35 39 43 47) rB rc rd tp A14F A14F A4F A4F A14F A14F (riverD (.inl (a, a)) (.inl (b, b)) (.inl (0, 4)) 3 8 3 41 45 49) rD (xD 12 D) wd2 (xD 12 g_8) wd4 (xD 12 Kn) ws2 (xD 12 g_12) ws4 (xD 48 Q) wi2 (xD 48 g_16) wi4) H := hH
  refine lv_aload_n F.1 F.2.1 dX2_copyOf_65 rfl (lv_at hl 1 rfl) ?_
  refine tGetR (j := 5) F hK hH (tyb ha1 (all1 rfl)) rfl (all1 rfl) clX2 (by decide) wd_3_2 dX2_copyOf_66 (fun q_17 hq_17 _ => ?_)
  refine lv_aload_n F.1 F.2.1 dX2_copyOf_69 rfl (lv_at hl 0 rfl) ?_
  refine tGetR (j := 5) F hK hH (tyb ha0 (all1 rfl)) rfl (all1 rfl) clX2 (by decide) wd_3_2 dX2_copyOf_70 (fun q_18 hq_18 _ => ?_)
  refine tNv (host := RX6) (As := [.ref q_17, .ref q_18]) (rest := []) F hK hN hO (c_X6_copyRow_A14R E dA dB (riverD (.inl (a, a)) (.inl (b, b)) (.inl (0, 4)) 31 33 35 39 43 47) rB rc rd tp A14F A14F A4F A4F A14F A14F (riverD (.inl (a, a)) (.inl (b, b)) (.inl (0, 4)) 3 8 3 41 45 49) rD (xD 12 D) wd2 (xD 12 g_8) wd4 (xD 12 Kn) ws2 (xD 12 g_12) ws4 (xD 48 Q) wi2 (xD 48 g_16) wi4 q_17 q_18 hq_17 hq_18) ms_X6_copyRow hN.1.2.2.2.2.2 ⟨Nat.le_of_ble_eq_true rfl, Nat.le_of_ble_eq_true rfl⟩ ⟨Nat.le_of_ble_eq_true rfl, Nat.le_of_ble_eq_true rfl⟩ hH hS rfl hl.1 (Nat.le_of_ble_eq_true rfl) dX2_copyOf_73 (fun H locs hq hS => ?_)
  have hH := hq
  have hH : TH E (tbC dA dB (riverD (.inl (a, a)) (.inl (b, b)) (.inl (0, 4)) 31 33 35 39 43 47) rB rc rd tp A14F A14F A4F A4F A14F A14F (riverD (.inl (a, a)) (.inl (b, b)) (.inl (0, 4)) 3 8 3 41 45 49) rD (xD 12 D) wd2 (xD 12 g_8) wd4 (xD 12 Kn) ws2 (xD 12 g_12) ws4 (xD 48 Q) wi2 (xD 48 g_16) wi4) H := hH
  refine lv_aload_n F.1 F.2.1 dX2_copyOf_76 rfl (lv_at hl 1 rfl) ?_
  refine tGetR (j := 6) F hK hH (tyb ha1 (all1 rfl)) rfl (all1 rfl) clX2 (by decide) wd_3_3 dX2_copyOf_77 (fun q_20 hq_20 _ => ?_)
  refine lv_aload_n F.1 F.2.1 dX2_copyOf_80 rfl (lv_at hl 0 rfl) ?_
  refine tGetR (j := 6) F hK hH (tyb ha0 (all1 rfl)) rfl (all1 rfl) clX2 (by decide) wd_3_3 dX2_copyOf_81 (fun q_21 hq_21 _ => ?_)
  refine tNv (host := RX6) (As := [.ref q_20, .ref q_21]) (rest := []) F hK hN hO (c_X6_copyRow_A14F E dA dB (riverD (.inl (a, a)) (.inl (b, b)) (.inl (0, 4)) 31 33 35 39 43 47) rB rc rd tp A14F A14F A4F A4F A14F A14F (riverD (.inl (a, a)) (.inl (b, b)) (.inl (0, 4)) 3 8 3 41 45 49) rD (xD 12 D) wd2 (xD 12 g_8) wd4 (xD 12 Kn) ws2 (xD 12 g_12) ws4 (xD 48 Q) wi2 (xD 48 g_16) wi4 q_20 q_21 hq_20 hq_21) ms_X6_copyRow hN.1.2.2.2.2.2 ⟨Nat.le_of_ble_eq_true rfl, Nat.le_of_ble_eq_true rfl⟩ ⟨Nat.le_of_ble_eq_true rfl, Nat.le_of_ble_eq_true rfl⟩ hH hS rfl hl.1 (Nat.le_of_ble_eq_true rfl) dX2_copyOf_84 (fun H locs hq hS => ?_)
  have hH := hq
  have hH : TH E (tbC dA dB (riverD (.inl (a, a)) (.inl (b, b)) (.inl (0, 4)) 31 33 35 39 43 47) rB rc rd tp A14F A14F A4F A4F A14F A14F (riverD (.inl (a, a)) (.inl (b, b)) (.inl (0, 4)) 3 8 3 41 45 49) rD (xD 12 D) wd2 (xD 12 g_8) wd4 (xD 12 Kn) ws2 (xD 12 g_12) ws4 (xD 48 Q) wi2 (xD 48 g_16) wi4) H := hH
  refine lv_aload_n F.1 F.2.1 dX2_copyOf_87 rfl (lv_at hl 1 rfl) ?_
  refine tGetR (j := 7) F hK hH (tyb ha1 (all1 rfl)) rfl (all1 rfl) clX2 (by decide) wd_3_4 dX2_copyOf_88 (fun q_23 hq_23 _ => ?_)
  refine lv_aload_n F.1 F.2.1 dX2_copyOf_91 rfl (lv_at hl 0 rfl) ?_
  refine tGetR (j := 7) F hK hH (tyb ha0 (all1 rfl)) rfl (all1 rfl) clX2 (by decide) wd_3_4 dX2_copyOf_92 (fun q_24 hq_24 _ => ?_)
  refine tNv (host := RX6) (As := [.ref q_23, .ref q_24]) (rest := []) F hK hN hO (c_X6_copyRow_f E dA dB (riverD (.inl (a, a)) (.inl (b, b)) (.inl (0, 4)) 31 33 35 39 43 47) rB rc rd tp (riverD (.inl (a, a)) (.inl (b, b)) (.inl (0, 4)) 3 8 3 41 45 49) rD (xD 12 D) wd2 (xD 12 g_8) wd4 (xD 12 Kn) ws2 (xD 12 g_12) ws4 (xD 48 Q) wi2 (xD 48 g_16) wi4 q_23 q_24 (by have h9_ := hq_23; simp at h9_ ⊢; omega) (by have h9_ := hq_24; simp at h9_ ⊢; omega)) ms_X6_copyRow hN.1.2.2.2.2.2 ⟨Nat.le_of_ble_eq_true rfl, Nat.le_of_ble_eq_true rfl⟩ ⟨Nat.le_of_ble_eq_true rfl, Nat.le_of_ble_eq_true rfl⟩ hH hS rfl hl.1 (Nat.le_of_ble_eq_true rfl) dX2_copyOf_95 (fun H locs hq hS => ?_)
  have hH := hq
  have hH : TH E (tbC dA dB (riverD (.inl (a, a)) (.inl (b, b)) (.inl (0, 4)) 31 33 35 39 43 47) rB rc rd tp A14F A14F A4F A4F A14F A14F (riverD (.inl (a, a)) (.inl (b, b)) (.inl (0, 4)) 3 8 3 41 45 49) rD (xD 12 D) wd2 (xD 12 g_8) wd4 (xD 12 Kn) ws2 (xD 12 g_12) ws4 (xD 48 Q) wi2 (xD 48 g_16) wi4) H := hH
  refine lv_aload_n F.1 F.2.1 dX2_copyOf_98 rfl (lv_at hl 1 rfl) ?_
  refine tGetR (j := 8) F hK hH (tyb ha1 (all1 rfl)) rfl (all1 rfl) clX2 (by decide) wd_3_5 dX2_copyOf_99 (fun q_26 hq_26 _ => ?_)
  refine lv_aload_n F.1 F.2.1 dX2_copyOf_102 rfl (lv_at hl 0 rfl) ?_
  refine tGetR (j := 8) F hK hH (tyb ha0 (all1 rfl)) rfl (all1 rfl) clX2 (by decide) wd_3_5 dX2_copyOf_103 (fun q_27 hq_27 _ => ?_)
  refine tNv (host := RX6) (As := [.ref q_26, .ref q_27]) (rest := []) F hK hN hO (c_X6_copyRow_A14F E dA dB (riverD (.inl (a, a)) (.inl (b, b)) (.inl (0, 4)) 31 33 35 39 43 47) rB rc rd tp A14F A14F A4F A4F A14F A14F (riverD (.inl (a, a)) (.inl (b, b)) (.inl (0, 4)) 3 8 3 41 45 49) rD (xD 12 D) wd2 (xD 12 g_8) wd4 (xD 12 Kn) ws2 (xD 12 g_12) ws4 (xD 48 Q) wi2 (xD 48 g_16) wi4 q_26 q_27 hq_26 hq_27) ms_X6_copyRow hN.1.2.2.2.2.2 ⟨Nat.le_of_ble_eq_true rfl, Nat.le_of_ble_eq_true rfl⟩ ⟨Nat.le_of_ble_eq_true rfl, Nat.le_of_ble_eq_true rfl⟩ hH hS rfl hl.1 (Nat.le_of_ble_eq_true rfl) dX2_copyOf_106 (fun H locs hq hS => ?_)
  have hH := hq
  have hH : TH E (tbC dA dB (riverD (.inl (a, a)) (.inl (b, b)) (.inl (0, 4)) 31 33 35 39 43 47) rB rc rd tp A14F A14F A4F A4F A14F A14F (riverD (.inl (a, a)) (.inl (b, b)) (.inl (0, 4)) 3 8 3 41 45 49) rD (xD 12 D) wd2 (xD 12 g_8) wd4 (xD 12 Kn) ws2 (xD 12 g_12) ws4 (xD 48 Q) wi2 (xD 48 g_16) wi4) H := hH
  refine lv_aload_n F.1 F.2.1 dX2_copyOf_109 rfl (lv_at hl 1 rfl) ?_
  refine tGetR (j := 9) F hK hH (tyb ha1 (all1 rfl)) rfl (all1 rfl) clX2 (by decide) wd_3_6 dX2_copyOf_110 (fun q_29 hq_29 _ => ?_)
  refine lv_aload_n F.1 F.2.1 dX2_copyOf_113 rfl (lv_at hl 0 rfl) ?_
  refine tGetR (j := 9) F hK hH (tyb ha0 (all1 rfl)) rfl (all1 rfl) clX2 (by decide) wd_3_6 dX2_copyOf_114 (fun q_30 hq_30 _ => ?_)
  refine tNv (host := RX6) (As := [.ref q_29, .ref q_30]) (rest := []) F hK hN hO (c_X6_copyRow_g E dA dB (riverD (.inl (a, a)) (.inl (b, b)) (.inl (0, 4)) 31 33 35 39 43 47) rB rc rd tp (riverD (.inl (a, a)) (.inl (b, b)) (.inl (0, 4)) 3 8 3 41 45 49) rD (xD 12 D) wd2 (xD 12 g_8) wd4 (xD 12 Kn) ws2 (xD 12 g_12) ws4 (xD 48 Q) wi2 (xD 48 g_16) wi4 q_29 q_30 (by have h9_ := hq_29; simp at h9_ ⊢; omega) (by have h9_ := hq_30; simp at h9_ ⊢; omega)) ms_X6_copyRow hN.1.2.2.2.2.2 ⟨Nat.le_of_ble_eq_true rfl, Nat.le_of_ble_eq_true rfl⟩ ⟨Nat.le_of_ble_eq_true rfl, Nat.le_of_ble_eq_true rfl⟩ hH hS rfl hl.1 (Nat.le_of_ble_eq_true rfl) dX2_copyOf_117 (fun H locs hq hS => ?_)
  have hH := hq
  have hH : TH E (tbC dA dB (riverD (.inl (a, a)) (.inl (b, b)) (.inl (0, 4)) 31 33 35 39 43 47) rB rc rd tp A14F A14F A4F A4F A14F A14F (riverD (.inl (a, a)) (.inl (b, b)) (.inl (0, 4)) 3 8 3 41 45 49) rD (xD 12 D) wd2 (xD 12 g_8) wd4 (xD 12 Kn) ws2 (xD 12 g_12) ws4 (xD 48 Q) wi2 (xD 48 g_16) wi4) H := hH
  refine lv_aload_n F.1 F.2.1 dX2_copyOf_120 rfl (lv_at hl 1 rfl) ?_
  refine tGetR (j := 10) F hK hH (tyb ha1 (all1 rfl)) rfl (all1 rfl) clX2 (by decide) wd_3_7 dX2_copyOf_121 (fun q_32 hq_32 _ => ?_)
  refine lv_aload_n F.1 F.2.1 dX2_copyOf_124 rfl (lv_at hl 0 rfl) ?_
  refine tGetR (j := 10) F hK hH (tyb ha0 (all1 rfl)) rfl (all1 rfl) clX2 (by decide) wd_3_7 dX2_copyOf_125 (fun q_33 hq_33 _ => ?_)
  refine tNv (host := RX6) (As := [.ref q_32, .ref q_33]) (rest := []) F hK hN hO (c_X6_copyRow_A14F E dA dB (riverD (.inl (a, a)) (.inl (b, b)) (.inl (0, 4)) 31 33 35 39 43 47) rB rc rd tp A14F A14F A4F A4F A14F A14F (riverD (.inl (a, a)) (.inl (b, b)) (.inl (0, 4)) 3 8 3 41 45 49) rD (xD 12 D) wd2 (xD 12 g_8) wd4 (xD 12 Kn) ws2 (xD 12 g_12) ws4 (xD 48 Q) wi2 (xD 48 g_16) wi4 q_32 q_33 hq_32 hq_33) ms_X6_copyRow hN.1.2.2.2.2.2 ⟨Nat.le_of_ble_eq_true rfl, Nat.le_of_ble_eq_true rfl⟩ ⟨Nat.le_of_ble_eq_true rfl, Nat.le_of_ble_eq_true rfl⟩ hH hS rfl hl.1 (Nat.le_of_ble_eq_true rfl) dX2_copyOf_128 (fun H locs hq hS => ?_)
  have hH := hq
  have hH : TH E (tbC dA dB (riverD (.inl (a, a)) (.inl (b, b)) (.inl (0, 4)) 31 33 35 39 43 47) rB rc rd tp A14F A14F A4F A4F A14F A14F (riverD (.inl (a, a)) (.inl (b, b)) (.inl (0, 4)) 3 8 3 41 45 49) rD (xD 12 D) wd2 (xD 12 g_8) wd4 (xD 12 Kn) ws2 (xD 12 g_12) ws4 (xD 48 Q) wi2 (xD 48 g_16) wi4) H := hH
  refine lv_aload_n F.1 F.2.1 dX2_copyOf_131 rfl (lv_at hl 1 rfl) ?_
  refine tGetR (j := 11) F hK hH (tyb ha1 (all1 rfl)) rfl (all1 rfl) clX2 (by decide) wd_3_8 dX2_copyOf_132 (fun q_35 hq_35 _ => ?_)
  refine lv_aload_n F.1 F.2.1 dX2_copyOf_135 rfl (lv_at hl 0 rfl) ?_
  refine tGetR (j := 11) F hK hH (tyb ha0 (all1 rfl)) rfl (all1 rfl) clX2 (by decide) wd_3_8 dX2_copyOf_136 (fun q_36 hq_36 _ => ?_)
  refine tNv (host := RX6) (As := [.ref q_35, .ref q_36]) (rest := []) F hK hN hO (c_X6_copyRow_A14B E dA dB (riverD (.inl (a, a)) (.inl (b, b)) (.inl (0, 4)) 31 33 35 39 43 47) rB rc rd tp A14F A14F A4F A4F A14F A14F (riverD (.inl (a, a)) (.inl (b, b)) (.inl (0, 4)) 3 8 3 41 45 49) rD (xD 12 D) wd2 (xD 12 g_8) wd4 (xD 12 Kn) ws2 (xD 12 g_12) ws4 (xD 48 Q) wi2 (xD 48 g_16) wi4 q_35 q_36 hq_35 hq_36) ms_X6_copyRow hN.1.2.2.2.2.2 ⟨Nat.le_of_ble_eq_true rfl, Nat.le_of_ble_eq_true rfl⟩ ⟨Nat.le_of_ble_eq_true rfl, Nat.le_of_ble_eq_true rfl⟩ hH hS rfl hl.1 (Nat.le_of_ble_eq_true rfl) dX2_copyOf_139 (fun H locs hq hS => ?_)
  have hH := hq
  have hH : TH E (tbC dA dB (riverD (.inl (a, a)) (.inl (b, b)) (.inl (0, 4)) 31 33 35 39 43 47) rB rc rd tp A14F A14F A4F A4F A14F A14F (riverD (.inl (a, a)) (.inl (b, b)) (.inl (0, 4)) 3 8 3 41 45 49) rD (xD 12 D) wd2 (xD 12 g_8) wd4 (xD 12 Kn) ws2 (xD 12 g_12) ws4 (xD 48 Q) wi2 (xD 48 g_16) wi4) H := hH
  refine lv_aload_n F.1 F.2.1 dX2_copyOf_142 rfl (lv_at hl 1 rfl) ?_
  refine tGetR (j := 12) F hK hH (tyb ha1 (all1 rfl)) rfl (all1 rfl) clX2 (by decide) wd_3_9 dX2_copyOf_143 (fun q_38 hq_38 _ => ?_)
  refine lv_aload_n F.1 F.2.1 dX2_copyOf_146 rfl (lv_at hl 0 rfl) ?_
  refine tGetR (j := 12) F hK hH (tyb ha0 (all1 rfl)) rfl (all1 rfl) clX2 (by decide) wd_3_9 dX2_copyOf_147 (fun q_39 hq_39 _ => ?_)
  refine tNv (host := RX6) (As := [.ref q_38, .ref q_39]) (rest := []) F hK hN hO (c_X6_copyRow_A14F E dA dB (riverD (.inl (a, a)) (.inl (b, b)) (.inl (0, 4)) 31 33 35 39 43 47) rB rc rd tp A14F A14F A4F A4F A14F A14F (riverD (.inl (a, a)) (.inl (b, b)) (.inl (0, 4)) 3 8 3 41 45 49) rD (xD 12 D) wd2 (xD 12 g_8) wd4 (xD 12 Kn) ws2 (xD 12 g_12) ws4 (xD 48 Q) wi2 (xD 48 g_16) wi4 q_38 q_39 hq_38 hq_39) ms_X6_copyRow hN.1.2.2.2.2.2 ⟨Nat.le_of_ble_eq_true rfl, Nat.le_of_ble_eq_true rfl⟩ ⟨Nat.le_of_ble_eq_true rfl, Nat.le_of_ble_eq_true rfl⟩ hH hS rfl hl.1 (Nat.le_of_ble_eq_true rfl) dX2_copyOf_150 (fun H locs hq hS => ?_)
  have hH := hq
  have hH : TH E (tbC dA dB (riverD (.inl (a, a)) (.inl (b, b)) (.inl (0, 4)) 31 33 35 39 43 47) rB rc rd tp A14F A14F A4F A4F A14F A14F (riverD (.inl (a, a)) (.inl (b, b)) (.inl (0, 4)) 3 8 3 41 45 49) rD (xD 12 D) wd2 (xD 12 g_8) wd4 (xD 12 Kn) ws2 (xD 12 g_12) ws4 (xD 48 Q) wi2 (xD 48 g_16) wi4) H := hH
  refine lv_aload_n F.1 F.2.1 dX2_copyOf_153 rfl (lv_at hl 1 rfl) ?_
  refine tGetR (j := 13) F hK hH (tyb ha1 (all1 rfl)) rfl (all1 rfl) clX2 (by decide) wd_3_10 dX2_copyOf_154 (fun q_41 hq_41 _ => ?_)
  refine lv_aload_n F.1 F.2.1 dX2_copyOf_157 rfl (lv_at hl 0 rfl) ?_
  refine tGetR (j := 13) F hK hH (tyb ha0 (all1 rfl)) rfl (all1 rfl) clX2 (by decide) wd_3_10 dX2_copyOf_158 (fun q_42 hq_42 _ => ?_)
  refine tNv (host := RX6) (As := [.ref q_41, .ref q_42]) (rest := []) F hK hN hO (c_X6_copyRow_A14L E dA dB (riverD (.inl (a, a)) (.inl (b, b)) (.inl (0, 4)) 31 33 35 39 43 47) rB rc rd tp A14F A14F A4F A4F A14F A14F (riverD (.inl (a, a)) (.inl (b, b)) (.inl (0, 4)) 3 8 3 41 45 49) rD (xD 12 D) wd2 (xD 12 g_8) wd4 (xD 12 Kn) ws2 (xD 12 g_12) ws4 (xD 48 Q) wi2 (xD 48 g_16) wi4 q_41 q_42 hq_41 hq_42) ms_X6_copyRow hN.1.2.2.2.2.2 ⟨Nat.le_of_ble_eq_true rfl, Nat.le_of_ble_eq_true rfl⟩ ⟨Nat.le_of_ble_eq_true rfl, Nat.le_of_ble_eq_true rfl⟩ hH hS rfl hl.1 (Nat.le_of_ble_eq_true rfl) dX2_copyOf_161 (fun H locs hq hS => ?_)
  have hH := hq
  have hH : TH E (tbC dA dB (riverD (.inl (a, a)) (.inl (b, b)) (.inl (0, 4)) 31 33 35 39 43 47) rB rc rd tp A14F A14F A4F A4F A14F A14F (riverD (.inl (a, a)) (.inl (b, b)) (.inl (0, 4)) 3 8 3 41 45 49) rD (xD 12 D) wd2 (xD 12 g_8) wd4 (xD 12 Kn) ws2 (xD 12 g_12) ws4 (xD 48 Q) wi2 (xD 48 g_16) wi4) H := hH
  refine lv_aload_n F.1 F.2.1 dX2_copyOf_164 rfl (lv_at hl 1 rfl) ?_
  refine tGetR (j := 15) F hK hH (tyb ha1 (all1 rfl)) rfl (all1 rfl) clX2 (by decide) wd_3_11 dX2_copyOf_165 (fun q_44 hq_44 _ => ?_)
  refine lv_aload_n F.1 F.2.1 dX2_copyOf_168 rfl (lv_at hl 0 rfl) ?_
  refine tGetR (j := 15) F hK hH (tyb ha0 (all1 rfl)) rfl (all1 rfl) clX2 (by decide) wd_3_11 dX2_copyOf_169 (fun q_45 hq_45 _ => ?_)
  refine tNv (host := RX6) (As := [.ref q_44, .ref q_45]) (rest := []) F hK hN hO (c_X6_copyRow_A4R E dA dB (riverD (.inl (a, a)) (.inl (b, b)) (.inl (0, 4)) 31 33 35 39 43 47) rB rc rd tp A14F A14F A4F A4F A14F A14F (riverD (.inl (a, a)) (.inl (b, b)) (.inl (0, 4)) 3 8 3 41 45 49) rD (xD 12 D) wd2 (xD 12 g_8) wd4 (xD 12 Kn) ws2 (xD 12 g_12) ws4 (xD 48 Q) wi2 (xD 48 g_16) wi4 q_44 q_45 hq_44 hq_45) ms_X6_copyRow hN.1.2.2.2.2.2 ⟨Nat.le_of_ble_eq_true rfl, Nat.le_of_ble_eq_true rfl⟩ ⟨Nat.le_of_ble_eq_true rfl, Nat.le_of_ble_eq_true rfl⟩ hH hS rfl hl.1 (Nat.le_of_ble_eq_true rfl) dX2_copyOf_172 (fun H locs hq hS => ?_)
  have hH := hq
  have hH : TH E (tbC dA dB (riverD (.inl (a, a)) (.inl (b, b)) (.inl (0, 4)) 31 33 35 39 43 47) rB rc rd tp A14F A14F A4F A4F A14F A14F (riverD (.inl (a, a)) (.inl (b, b)) (.inl (0, 4)) 3 8 3 41 45 49) rD (xD 12 D) wd2 (xD 12 g_8) wd4 (xD 12 Kn) ws2 (xD 12 g_12) ws4 (xD 48 Q) wi2 (xD 48 g_16) wi4) H := hH
  refine lv_aload_n F.1 F.2.1 dX2_copyOf_175 rfl (lv_at hl 1 rfl) ?_
  refine tGetR (j := 16) F hK hH (tyb ha1 (all1 rfl)) rfl (all1 rfl) clX2 (by decide) wd_3_12 dX2_copyOf_176 (fun q_47 hq_47 _ => ?_)
  refine lv_aload_n F.1 F.2.1 dX2_copyOf_179 rfl (lv_at hl 0 rfl) ?_
  refine tGetR (j := 16) F hK hH (tyb ha0 (all1 rfl)) rfl (all1 rfl) clX2 (by decide) wd_3_12 dX2_copyOf_180 (fun q_48 hq_48 _ => ?_)
  refine tNv (host := RX6) (As := [.ref q_47, .ref q_48]) (rest := []) F hK hN hO (c_X6_copyRow_A4F E dA dB (riverD (.inl (a, a)) (.inl (b, b)) (.inl (0, 4)) 31 33 35 39 43 47) rB rc rd tp A14F A14F A4F A4F A14F A14F (riverD (.inl (a, a)) (.inl (b, b)) (.inl (0, 4)) 3 8 3 41 45 49) rD (xD 12 D) wd2 (xD 12 g_8) wd4 (xD 12 Kn) ws2 (xD 12 g_12) ws4 (xD 48 Q) wi2 (xD 48 g_16) wi4 q_47 q_48 hq_47 hq_48) ms_X6_copyRow hN.1.2.2.2.2.2 ⟨Nat.le_of_ble_eq_true rfl, Nat.le_of_ble_eq_true rfl⟩ ⟨Nat.le_of_ble_eq_true rfl, Nat.le_of_ble_eq_true rfl⟩ hH hS rfl hl.1 (Nat.le_of_ble_eq_true rfl) dX2_copyOf_183 (fun H locs hq hS => ?_)
  have hH := hq
  have hH : TH E (tbC dA dB (riverD (.inl (a, a)) (.inl (b, b)) (.inl (0, 4)) 31 33 35 39 43 47) rB rc rd tp A14F A14F A4F A4F A14F A14F (riverD (.inl (a, a)) (.inl (b, b)) (.inl (0, 4)) 3 8 3 41 45 49) rD (xD 12 D) wd2 (xD 12 g_8) wd4 (xD 12 Kn) ws2 (xD 12 g_12) ws4 (xD 48 Q) wi2 (xD 48 g_16) wi4) H := hH
  refine lv_aload_n F.1 F.2.1 dX2_copyOf_186 rfl (lv_at hl 1 rfl) ?_
  refine tGetR (j := 17) F hK hH (tyb ha1 (all1 rfl)) rfl (all1 rfl) clX2 (by decide) wd_3_13 dX2_copyOf_187 (fun q_50 hq_50 _ => ?_)
  refine lv_aload_n F.1 F.2.1 dX2_copyOf_190 rfl (lv_at hl 0 rfl) ?_
  refine tGetR (j := 17) F hK hH (tyb ha0 (all1 rfl)) rfl (all1 rfl) clX2 (by decide) wd_3_13 dX2_copyOf_191 (fun q_51 hq_51 _ => ?_)
  refine tNv (host := RX6) (As := [.ref q_50, .ref q_51]) (rest := []) F hK hN hO (c_X6_copyRow_A4F E dA dB (riverD (.inl (a, a)) (.inl (b, b)) (.inl (0, 4)) 31 33 35 39 43 47) rB rc rd tp A14F A14F A4F A4F A14F A14F (riverD (.inl (a, a)) (.inl (b, b)) (.inl (0, 4)) 3 8 3 41 45 49) rD (xD 12 D) wd2 (xD 12 g_8) wd4 (xD 12 Kn) ws2 (xD 12 g_12) ws4 (xD 48 Q) wi2 (xD 48 g_16) wi4 q_50 q_51 hq_50 hq_51) ms_X6_copyRow hN.1.2.2.2.2.2 ⟨Nat.le_of_ble_eq_true rfl, Nat.le_of_ble_eq_true rfl⟩ ⟨Nat.le_of_ble_eq_true rfl, Nat.le_of_ble_eq_true rfl⟩ hH hS rfl hl.1 (Nat.le_of_ble_eq_true rfl) dX2_copyOf_194 (fun H locs hq hS => ?_)
  have hH := hq
  have hH : TH E (tbC dA dB (riverD (.inl (a, a)) (.inl (b, b)) (.inl (0, 4)) 31 33 35 39 43 47) rB rc rd tp A14F A14F A4F A4F A14F A14F (riverD (.inl (a, a)) (.inl (b, b)) (.inl (0, 4)) 3 8 3 41 45 49) rD (xD 12 D) wd2 (xD 12 g_8) wd4 (xD 12 Kn) ws2 (xD 12 g_12) ws4 (xD 48 Q) wi2 (xD 48 g_16) wi4) H := hH
  refine lv_aload_n F.1 F.2.1 dX2_copyOf_197 rfl (lv_at hl 1 rfl) ?_
  refine tGetR (j := 18) F hK hH (tyb ha1 (all1 rfl)) rfl (all1 rfl) clX2 (by decide) wd_3_14 dX2_copyOf_198 (fun q_53 hq_53 _ => ?_)
  refine lv_aload_n F.1 F.2.1 dX2_copyOf_201 rfl (lv_at hl 0 rfl) ?_
  refine tGetR (j := 18) F hK hH (tyb ha0 (all1 rfl)) rfl (all1 rfl) clX2 (by decide) wd_3_14 dX2_copyOf_202 (fun q_54 hq_54 _ => ?_)
  refine tNv (host := RX6) (As := [.ref q_53, .ref q_54]) (rest := []) F hK hN hO (c_X6_copyRow_s E dA dB (riverD (.inl (a, a)) (.inl (b, b)) (.inl (0, 4)) 31 33 35 39 43 47) rB rc rd tp (riverD (.inl (a, a)) (.inl (b, b)) (.inl (0, 4)) 3 8 3 41 45 49) rD (xD 12 D) wd2 (xD 12 g_8) wd4 (xD 12 Kn) ws2 (xD 12 g_12) ws4 (xD 48 Q) wi2 (xD 48 g_16) wi4 q_53 q_54 (by have h9_ := hq_53; simp at h9_ ⊢; omega) (by have h9_ := hq_54; simp at h9_ ⊢; omega)) ms_X6_copyRow hN.1.2.2.2.2.2 ⟨Nat.le_of_ble_eq_true rfl, Nat.le_of_ble_eq_true rfl⟩ ⟨Nat.le_of_ble_eq_true rfl, Nat.le_of_ble_eq_true rfl⟩ hH hS rfl hl.1 (Nat.le_of_ble_eq_true rfl) dX2_copyOf_205 (fun H locs hq hS => ?_)
  have hH := hq
  have hH : TH E (tbC dA dB (riverD (.inl (a, a)) (.inl (b, b)) (.inl (0, 4)) 31 33 35 39 43 47) rB rc rd tp A14F A14F A4F A4F A14F A14F (riverD (.inl (a, a)) (.inl (b, b)) (.inl (0, 4)) 3 8 3 41 45 49) rD (xD 12 D) wd2 (xD 12 g_8) wd4 (xD 12 Kn) ws2 (xD 12 g_12) ws4 (xD 48 Q) wi2 (xD 48 g_16) wi4) H := hH
  exact txV F hS dX2_copyOf_208 (⟨g_8, ⟨hg_8.1, hg_8.2⟩, g_12, ⟨hg_12.1, hg_12.2⟩, g_16, ⟨hg_16.1, hg_16.2⟩, hH⟩)
set_option maxHeartbeats 4000000 in
set_option maxRecDepth 100000 in
theorem c_X2_copyOfx_37_27 (E : Ev) (dA : TD) (dB : TD) (rA : TD) (rc : TD) (rd : TD) (tp : TD) (rD : TD) (wd1 : TD) (wd4 : TD) (ws1 : TD) (ws4 : TD) (wi1 : TD) (wi4 : TD) (Fa3 : Int × Int) (Fb3 : Int × Int) (a : Int) (b : Int) (D : Nat → Int32) (D1 : Nat → Int32) (Kn : Nat → Int32) (Kn1 : Nat → Int32) (Q : Nat → Int32) (Q1 : Nat → Int32) (a0 : Nat) (a1 : Nat) (ha0 : eT E a0 ∈ [37]) (ha1 : eT E a1 ∈ [27]) (ha : 0 ≤ a ∧ a ≤ 12) (hb : 0 ≤ b ∧ b ≤ 14) (hD : ivP 12 (-2) 11 D) (hD1 : ivP 12 (-2) 11 D1) (hKn : ivP 12 (-2147483648) 2147483647 Kn) (hKn1 : ivP 12 (-2147483648) 2147483647 Kn1) (hQ : ivP 48 (-2147483648) 2147483647 Q) (hQ1 : ivP 48 (-2147483648) 2147483647 Q1) (hFa3 : 0 ≤ Fa3.1 ∧ Fa3.2 ≤ 12) (hFb3 : 0 ≤ Fb3.1 ∧ Fb3.2 ≤ 14) : TcV E yX2_copyOf cX2_copyOf 2 ({ frames := 2, cells := 0, slots := 0, locals := 61 }) [.ref a0, .ref a1] (fun H => TH E (tbC dA dB rA (riverD (.inl (a, a)) (.inl (b, b)) (.inl (0, 4)) 32 34 36 40 44 48) rc rd tp A14F A14F A4F A4F A14F A14F (riverD (.inl Fa3) (.inl Fb3) (.inl (0, 4)) 3 8 3 41 45 49) rD wd1 (xD 12 D) (xD 12 D1) wd4 ws1 (xD 12 Kn) (xD 12 Kn1) ws4 wi1 (xD 48 Q) (xD 48 Q1) wi4) H) (fun H => ∃ D2 : Nat → Int32, (ivP 12 (-2) 11 D2 ∧ ∀ j : Nat, j < 12 → D2 j = D j) ∧ ∃ Kn2 : Nat → Int32, (ivP 12 (-2147483648) 2147483647 Kn2 ∧ ∀ j : Nat, j < 12 → Kn2 j = Kn j) ∧ ∃ Q2 : Nat → Int32, (ivP 48 (-2147483648) 2147483647 Q2 ∧ ∀ j : Nat, j < 48 → Q2 j = Q j) ∧ TH E (tbC dA dB rA (riverD (.inl (a, a)) (.inl (b, b)) (.inl (0, 4)) 32 34 36 40 44 48) rc rd tp A14F A14F A4F A4F A14F A14F (riverD (.inl (a, a)) (.inl (b, b)) (.inl (0, 4)) 3 8 3 41 45 49) rD wd1 (xD 12 D) (xD 12 D2) wd4 ws1 (xD 12 Kn) (xD 12 Kn2) ws4 wi1 (xD 48 Q) (xD 48 Q2) wi4) H) := by
  refine teV (by decide) (Nat.le_of_ble_eq_true rfl) ?_
  intro p_ ev_ s mi_ below_ meth cd_ ls F hK hN hO hH hS hl
  have hH : TH E (tbC dA dB rA (riverD (.inl (a, a)) (.inl (b, b)) (.inl (0, 4)) 32 34 36 40 44 48) rc rd tp A14F A14F A4F A4F A14F A14F (riverD (.inl Fa3) (.inl Fb3) (.inl (0, 4)) 3 8 3 41 45 49) rD wd1 (xD 12 D) (xD 12 D1) wd4 ws1 (xD 12 Kn) (xD 12 Kn1) ws4 wi1 (xD 48 Q) (xD 48 Q1) wi4) s.heap := hH
  have hl : lv_has ls 2 [(0, .ref a0), (1, .ref a1)] := hl
  refine lv_aload_n F.1 F.2.1 dX2_copyOf_0 rfl (lv_at hl 0 rfl) ?_
  refine lv_aload_n F.1 F.2.1 dX2_copyOf_1 rfl (lv_at hl 1 rfl) ?_
  refine tGetI (j := 0) F hK hH (tyb ha1 (all1 rfl)) rfl clX2 (by decide) wd_9_11 dX2_copyOf_2 (fun z_1 hz_1 => ?_)
  have ez_1 : 0 ≤ z_1.toInt ∧ z_1.toInt ≤ 12 := by omega
  refine tPutG (j := 0) (t := 37) (fd := (.inl (a, a))) F hK hH hS (List.mem_singleton.mp ha0) (by decide) rfl rfl (fdI (by omega)) (TB1 := (tbC dA dB rA (riverD (.inl (a, a)) (.inl (b, b)) (.inl (0, 4)) 32 34 36 40 44 48) rc rd tp A14F A14F A4F A4F A14F A14F (riverD (.inl (a, a)) (.inl Fb3) (.inl (0, 4)) 3 8 3 41 45 49) rD wd1 (xD 12 D) (xD 12 D1) wd4 ws1 (xD 12 Kn) (xD 12 Kn1) ws4 wi1 (xD 48 Q) (xD 48 Q1) wi4)) rfl clX2 (by decide) wd_9_11 rfl rfl rfl rfl dX2_copyOf_5 (fun H locs hH hS => ?_)
  refine lv_aload_n F.1 F.2.1 dX2_copyOf_8 rfl (lv_at hl 0 rfl) ?_
  refine lv_aload_n F.1 F.2.1 dX2_copyOf_9 rfl (lv_at hl 1 rfl) ?_
  refine tGetI (j := 4) F hK hH (tyb ha1 (all1 rfl)) rfl clX2 (by decide) wd_9_12 dX2_copyOf_10 (fun z_2 hz_2 => ?_)
  have ez_2 : 0 ≤ z_2.toInt ∧ z_2.toInt ≤ 14 := by omega
  refine tPutG (j := 4) (t := 37) (fd := (.inl (b, b))) F hK hH hS (List.mem_singleton.mp ha0) (by decide) rfl rfl (fdI (by omega)) (TB1 := (tbC dA dB rA (riverD (.inl (a, a)) (.inl (b, b)) (.inl (0, 4)) 32 34 36 40 44 48) rc rd tp A14F A14F A4F A4F A14F A14F (riverD (.inl (a, a)) (.inl (b, b)) (.inl (0, 4)) 3 8 3 41 45 49) rD wd1 (xD 12 D) (xD 12 D1) wd4 ws1 (xD 12 Kn) (xD 12 Kn1) ws4 wi1 (xD 48 Q) (xD 48 Q1) wi4)) rfl clX2 (by decide) wd_9_12 rfl rfl rfl rfl dX2_copyOf_13 (fun H locs hH hS => ?_)
  refine lv_aload_n F.1 F.2.1 dX2_copyOf_16 rfl (lv_at hl 0 rfl) ?_
  refine lv_aload_n F.1 F.2.1 dX2_copyOf_17 rfl (lv_at hl 1 rfl) ?_
  refine tGetI (j := 14) F hK hH (tyb ha1 (all1 rfl)) rfl clX2 (by decide) wd_9_13 dX2_copyOf_18 (fun z_3 hz_3 => ?_)
  refine tPut (j := 14) F hK hH hS (tyb ha0 (all1 rfl)) rfl (fdI hz_3) clX2 (by decide) wd_9_13 rfl rfl rfl rfl dX2_copyOf_21 (fun H locs hH hS => ?_)
  refine lv_aload_n F.1 F.2.1 dX2_copyOf_24 rfl (lv_at hl 0 rfl) ?_
  refine lv_aload_n F.1 F.2.1 dX2_copyOf_25 rfl (lv_at hl 1 rfl) ?_
  refine tGetI (j := 19) F hK hH (tyb ha1 (all1 rfl)) rfl clX2 (by decide) wd_3_15 dX2_copyOf_26 (fun z_4 hz_4 => ?_)
  refine tPut (j := 19) F hK hH hS (tyb ha0 (all1 rfl)) rfl (fdI hz_4) clX2 (by decide) wd_3_15 rfl rfl rfl rfl dX2_copyOf_29 (fun H locs hH hS => ?_)
  refine lv_aload_n F.1 F.2.1 dX2_copyOf_32 rfl (lv_at hl 1 rfl) ?_
  refine tGetR (j := 1) F hK hH (tyb ha1 (all1 rfl)) rfl (all1 rfl) clX2 (by decide) wd_2_23 dX2_copyOf_33 (fun q_5 hq_5 _ => ?_)
  refine lv_aload_n F.1 F.2.1 dX2_copyOf_36 rfl (lv_at hl 0 rfl) ?_
  refine tGetR (j := 1) F hK hH (tyb ha0 (all1 rfl)) rfl (all1 rfl) clX2 (by decide) wd_2_23 dX2_copyOf_37 (fun q_6 hq_6 _ => ?_)
  refine tNv (host := RX6) (As := [.ref q_5, .ref q_6]) (rest := []) F hK hN hO (c_X6_copyRow_pd_3_2 E dA dB rA (riverD (.inl (a, a)) (.inl (b, b)) (.inl (0, 4)) 32 34 36 40 44 48) rc rd tp A14F A14F A4F A4F A14F A14F (riverD (.inl (a, a)) (.inl (b, b)) (.inl (0, 4)) 3 8 3 41 45 49) rD wd1 wd4 ws1 (xD 12 Kn) (xD 12 Kn1) ws4 wi1 (xD 48 Q) (xD 48 Q1) wi4 D D1 q_5 q_6 hq_5 hq_6 hD hD1) ms_X6_copyRow hN.1.2.2.2.2.2 ⟨Nat.le_of_ble_eq_true rfl, Nat.le_of_ble_eq_true rfl⟩ ⟨Nat.le_of_ble_eq_true rfl, Nat.le_of_ble_eq_true rfl⟩ hH hS rfl hl.1 (Nat.le_of_ble_eq_true rfl) dX2_copyOf_40 (fun H locs hq hS => ?_)
  obtain ⟨g_8, hg_8, hH⟩ := hq
  have hH : TH E (tbC dA dB rA (riverD (.inl (a, a)) (.inl (b, b)) (.inl (0, 4)) 32 34 36 40 44 48) rc rd tp A14F A14F A4F A4F A14F A14F (riverD (.inl (a, a)) (.inl (b, b)) (.inl (0, 4)) 3 8 3 41 45 49) rD wd1 (xD 12 D) (xD 12 g_8) wd4 ws1 (xD 12 Kn) (xD 12 Kn1) ws4 wi1 (xD 48 Q) (xD 48 Q1) wi4) H := hH
  refine lv_aload_n F.1 F.2.1 dX2_copyOf_43 rfl (lv_at hl 1 rfl) ?_
  refine tGetR (j := 2) F hK hH (tyb ha1 (all1 rfl)) rfl (all1 rfl) clX2 (by decide) wd_3_0 dX2_copyOf_44 (fun q_9 hq_9 _ => ?_)
  refine lv_aload_n F.1 F.2.1 dX2_copyOf_47 rfl (lv_at hl 0 rfl) ?_
  refine tGetR (j := 2) F hK hH (tyb ha0 (all1 rfl)) rfl (all1 rfl) clX2 (by decide) wd_3_0 dX2_copyOf_48 (fun q_10 hq_10 _ => ?_)
  refine tNv (host := RX6) (As := [.ref q_9, .ref q_10]) (rest := []) F hK hN hO (c_X6_copyRow_ps_3_2 E dA dB rA (riverD (.inl (a, a)) (.inl (b, b)) (.inl (0, 4)) 32 34 36 40 44 48) rc rd tp A14F A14F A4F A4F A14F A14F (riverD (.inl (a, a)) (.inl (b, b)) (.inl (0, 4)) 3 8 3 41 45 49) rD wd1 (xD 12 D) (xD 12 g_8) wd4 ws1 ws4 wi1 (xD 48 Q) (xD 48 Q1) wi4 Kn Kn1 q_9 q_10 hq_9 hq_10 hKn hKn1) ms_X6_copyRow hN.1.2.2.2.2.2 ⟨Nat.le_of_ble_eq_true rfl, Nat.le_of_ble_eq_true rfl⟩ ⟨Nat.le_of_ble_eq_true rfl, Nat.le_of_ble_eq_true rfl⟩ hH hS rfl hl.1 (Nat.le_of_ble_eq_true rfl) dX2_copyOf_51 (fun H locs hq hS => ?_)
  obtain ⟨g_12, hg_12, hH⟩ := hq
  have hH : TH E (tbC dA dB rA (riverD (.inl (a, a)) (.inl (b, b)) (.inl (0, 4)) 32 34 36 40 44 48) rc rd tp A14F A14F A4F A4F A14F A14F (riverD (.inl (a, a)) (.inl (b, b)) (.inl (0, 4)) 3 8 3 41 45 49) rD wd1 (xD 12 D) (xD 12 g_8) wd4 ws1 (xD 12 Kn) (xD 12 g_12) ws4 wi1 (xD 48 Q) (xD 48 Q1) wi4) H := hH
  refine lv_aload_n F.1 F.2.1 dX2_copyOf_54 rfl (lv_at hl 1 rfl) ?_
  refine tGetR (j := 3) F hK hH (tyb ha1 (all1 rfl)) rfl (all1 rfl) clX2 (by decide) wd_3_1 dX2_copyOf_55 (fun q_13 hq_13 _ => ?_)
  refine lv_aload_n F.1 F.2.1 dX2_copyOf_58 rfl (lv_at hl 0 rfl) ?_
  refine tGetR (j := 3) F hK hH (tyb ha0 (all1 rfl)) rfl (all1 rfl) clX2 (by decide) wd_3_1 dX2_copyOf_59 (fun q_14 hq_14 _ => ?_)
  refine tNv (host := RX6) (As := [.ref q_13, .ref q_14]) (rest := []) F hK hN hO (c_X6_copyRow_pi_3_2 E dA dB rA (riverD (.inl (a, a)) (.inl (b, b)) (.inl (0, 4)) 32 34 36 40 44 48) rc rd tp A14F A14F A4F A4F A14F A14F (riverD (.inl (a, a)) (.inl (b, b)) (.inl (0, 4)) 3 8 3 41 45 49) rD wd1 (xD 12 D) (xD 12 g_8) wd4 ws1 (xD 12 Kn) (xD 12 g_12) ws4 wi1 wi4 Q Q1 q_13 q_14 hq_13 hq_14 hQ hQ1) ms_X6_copyRow hN.1.2.2.2.2.2 ⟨Nat.le_of_ble_eq_true rfl, Nat.le_of_ble_eq_true rfl⟩ ⟨Nat.le_of_ble_eq_true rfl, Nat.le_of_ble_eq_true rfl⟩ hH hS rfl hl.1 (Nat.le_of_ble_eq_true rfl) dX2_copyOf_62 (fun H locs hq hS => ?_)
  obtain ⟨g_16, hg_16, hH⟩ := hq
  have hH : TH E (tbC dA dB rA (riverD (.inl (a, a)) (.inl (b, b)) (.inl (0, 4)) 32 34 36 40 44 48) rc rd tp A14F A14F A4F A4F A14F A14F (riverD (.inl (a, a)) (.inl (b, b)) (.inl (0, 4)) 3 8 3 41 45 49) rD wd1 (xD 12 D) (xD 12 g_8) wd4 ws1 (xD 12 Kn) (xD 12 g_12) ws4 wi1 (xD 48 Q) (xD 48 g_16) wi4) H := hH
  refine lv_aload_n F.1 F.2.1 dX2_copyOf_65 rfl (lv_at hl 1 rfl) ?_
  refine tGetR (j := 5) F hK hH (tyb ha1 (all1 rfl)) rfl (all1 rfl) clX2 (by decide) wd_3_2 dX2_copyOf_66 (fun q_17 hq_17 _ => ?_)
  refine lv_aload_n F.1 F.2.1 dX2_copyOf_69 rfl (lv_at hl 0 rfl) ?_
  refine tGetR (j := 5) F hK hH (tyb ha0 (all1 rfl)) rfl (all1 rfl) clX2 (by decide) wd_3_2 dX2_copyOf_70 (fun q_18 hq_18 _ => ?_)
  refine tNv (host := RX6) (As := [.ref q_17, .ref q_18]) (rest := []) F hK hN hO (c_X6_copyRow_A14R E dA dB rA (riverD (.inl (a, a)) (.inl (b, b)) (.inl (0, 4)) 32 34 36 40 44 48) rc rd tp A14F A14F A4F A4F A14F A14F (riverD (.inl (a, a)) (.inl (b, b)) (.inl (0, 4)) 3 8 3 41 45 49) rD wd1 (xD 12 D) (xD 12 g_8) wd4 ws1 (xD 12 Kn) (xD 12 g_12) ws4 wi1 (xD 48 Q) (xD 48 g_16) wi4 q_17 q_18 hq_17 hq_18) ms_X6_copyRow hN.1.2.2.2.2.2 ⟨Nat.le_of_ble_eq_true rfl, Nat.le_of_ble_eq_true rfl⟩ ⟨Nat.le_of_ble_eq_true rfl, Nat.le_of_ble_eq_true rfl⟩ hH hS rfl hl.1 (Nat.le_of_ble_eq_true rfl) dX2_copyOf_73 (fun H locs hq hS => ?_)
  have hH := hq
  have hH : TH E (tbC dA dB rA (riverD (.inl (a, a)) (.inl (b, b)) (.inl (0, 4)) 32 34 36 40 44 48) rc rd tp A14F A14F A4F A4F A14F A14F (riverD (.inl (a, a)) (.inl (b, b)) (.inl (0, 4)) 3 8 3 41 45 49) rD wd1 (xD 12 D) (xD 12 g_8) wd4 ws1 (xD 12 Kn) (xD 12 g_12) ws4 wi1 (xD 48 Q) (xD 48 g_16) wi4) H := hH
  refine lv_aload_n F.1 F.2.1 dX2_copyOf_76 rfl (lv_at hl 1 rfl) ?_
  refine tGetR (j := 6) F hK hH (tyb ha1 (all1 rfl)) rfl (all1 rfl) clX2 (by decide) wd_3_3 dX2_copyOf_77 (fun q_20 hq_20 _ => ?_)
  refine lv_aload_n F.1 F.2.1 dX2_copyOf_80 rfl (lv_at hl 0 rfl) ?_
  refine tGetR (j := 6) F hK hH (tyb ha0 (all1 rfl)) rfl (all1 rfl) clX2 (by decide) wd_3_3 dX2_copyOf_81 (fun q_21 hq_21 _ => ?_)
  refine tNv (host := RX6) (As := [.ref q_20, .ref q_21]) (rest := []) F hK hN hO (c_X6_copyRow_A14F E dA dB rA (riverD (.inl (a, a)) (.inl (b, b)) (.inl (0, 4)) 32 34 36 40 44 48) rc rd tp A14F A14F A4F A4F A14F A14F (riverD (.inl (a, a)) (.inl (b, b)) (.inl (0, 4)) 3 8 3 41 45 49) rD wd1 (xD 12 D) (xD 12 g_8) wd4 ws1 (xD 12 Kn) (xD 12 g_12) ws4 wi1 (xD 48 Q) (xD 48 g_16) wi4 q_20 q_21 hq_20 hq_21) ms_X6_copyRow hN.1.2.2.2.2.2 ⟨Nat.le_of_ble_eq_true rfl, Nat.le_of_ble_eq_true rfl⟩ ⟨Nat.le_of_ble_eq_true rfl, Nat.le_of_ble_eq_true rfl⟩ hH hS rfl hl.1 (Nat.le_of_ble_eq_true rfl) dX2_copyOf_84 (fun H locs hq hS => ?_)
  have hH := hq
  have hH : TH E (tbC dA dB rA (riverD (.inl (a, a)) (.inl (b, b)) (.inl (0, 4)) 32 34 36 40 44 48) rc rd tp A14F A14F A4F A4F A14F A14F (riverD (.inl (a, a)) (.inl (b, b)) (.inl (0, 4)) 3 8 3 41 45 49) rD wd1 (xD 12 D) (xD 12 g_8) wd4 ws1 (xD 12 Kn) (xD 12 g_12) ws4 wi1 (xD 48 Q) (xD 48 g_16) wi4) H := hH
  refine lv_aload_n F.1 F.2.1 dX2_copyOf_87 rfl (lv_at hl 1 rfl) ?_
  refine tGetR (j := 7) F hK hH (tyb ha1 (all1 rfl)) rfl (all1 rfl) clX2 (by decide) wd_3_4 dX2_copyOf_88 (fun q_23 hq_23 _ => ?_)
  refine lv_aload_n F.1 F.2.1 dX2_copyOf_91 rfl (lv_at hl 0 rfl) ?_
  refine tGetR (j := 7) F hK hH (tyb ha0 (all1 rfl)) rfl (all1 rfl) clX2 (by decide) wd_3_4 dX2_copyOf_92 (fun q_24 hq_24 _ => ?_)
  refine tNv (host := RX6) (As := [.ref q_23, .ref q_24]) (rest := []) F hK hN hO (c_X6_copyRow_f E dA dB rA (riverD (.inl (a, a)) (.inl (b, b)) (.inl (0, 4)) 32 34 36 40 44 48) rc rd tp (riverD (.inl (a, a)) (.inl (b, b)) (.inl (0, 4)) 3 8 3 41 45 49) rD wd1 (xD 12 D) (xD 12 g_8) wd4 ws1 (xD 12 Kn) (xD 12 g_12) ws4 wi1 (xD 48 Q) (xD 48 g_16) wi4 q_23 q_24 (by have h9_ := hq_23; simp at h9_ ⊢; omega) (by have h9_ := hq_24; simp at h9_ ⊢; omega)) ms_X6_copyRow hN.1.2.2.2.2.2 ⟨Nat.le_of_ble_eq_true rfl, Nat.le_of_ble_eq_true rfl⟩ ⟨Nat.le_of_ble_eq_true rfl, Nat.le_of_ble_eq_true rfl⟩ hH hS rfl hl.1 (Nat.le_of_ble_eq_true rfl) dX2_copyOf_95 (fun H locs hq hS => ?_)
  have hH := hq
  have hH : TH E (tbC dA dB rA (riverD (.inl (a, a)) (.inl (b, b)) (.inl (0, 4)) 32 34 36 40 44 48) rc rd tp A14F A14F A4F A4F A14F A14F (riverD (.inl (a, a)) (.inl (b, b)) (.inl (0, 4)) 3 8 3 41 45 49) rD wd1 (xD 12 D) (xD 12 g_8) wd4 ws1 (xD 12 Kn) (xD 12 g_12) ws4 wi1 (xD 48 Q) (xD 48 g_16) wi4) H := hH
  refine lv_aload_n F.1 F.2.1 dX2_copyOf_98 rfl (lv_at hl 1 rfl) ?_
  refine tGetR (j := 8) F hK hH (tyb ha1 (all1 rfl)) rfl (all1 rfl) clX2 (by decide) wd_3_5 dX2_copyOf_99 (fun q_26 hq_26 _ => ?_)
  refine lv_aload_n F.1 F.2.1 dX2_copyOf_102 rfl (lv_at hl 0 rfl) ?_
  refine tGetR (j := 8) F hK hH (tyb ha0 (all1 rfl)) rfl (all1 rfl) clX2 (by decide) wd_3_5 dX2_copyOf_103 (fun q_27 hq_27 _ => ?_)
  refine tNv (host := RX6) (As := [.ref q_26, .ref q_27]) (rest := []) F hK hN hO (c_X6_copyRow_A14F E dA dB rA (riverD (.inl (a, a)) (.inl (b, b)) (.inl (0, 4)) 32 34 36 40 44 48) rc rd tp A14F A14F A4F A4F A14F A14F (riverD (.inl (a, a)) (.inl (b, b)) (.inl (0, 4)) 3 8 3 41 45 49) rD wd1 (xD 12 D) (xD 12 g_8) wd4 ws1 (xD 12 Kn) (xD 12 g_12) ws4 wi1 (xD 48 Q) (xD 48 g_16) wi4 q_26 q_27 hq_26 hq_27) ms_X6_copyRow hN.1.2.2.2.2.2 ⟨Nat.le_of_ble_eq_true rfl, Nat.le_of_ble_eq_true rfl⟩ ⟨Nat.le_of_ble_eq_true rfl, Nat.le_of_ble_eq_true rfl⟩ hH hS rfl hl.1 (Nat.le_of_ble_eq_true rfl) dX2_copyOf_106 (fun H locs hq hS => ?_)
  have hH := hq
  have hH : TH E (tbC dA dB rA (riverD (.inl (a, a)) (.inl (b, b)) (.inl (0, 4)) 32 34 36 40 44 48) rc rd tp A14F A14F A4F A4F A14F A14F (riverD (.inl (a, a)) (.inl (b, b)) (.inl (0, 4)) 3 8 3 41 45 49) rD wd1 (xD 12 D) (xD 12 g_8) wd4 ws1 (xD 12 Kn) (xD 12 g_12) ws4 wi1 (xD 48 Q) (xD 48 g_16) wi4) H := hH
  refine lv_aload_n F.1 F.2.1 dX2_copyOf_109 rfl (lv_at hl 1 rfl) ?_
  refine tGetR (j := 9) F hK hH (tyb ha1 (all1 rfl)) rfl (all1 rfl) clX2 (by decide) wd_3_6 dX2_copyOf_110 (fun q_29 hq_29 _ => ?_)
  refine lv_aload_n F.1 F.2.1 dX2_copyOf_113 rfl (lv_at hl 0 rfl) ?_
  refine tGetR (j := 9) F hK hH (tyb ha0 (all1 rfl)) rfl (all1 rfl) clX2 (by decide) wd_3_6 dX2_copyOf_114 (fun q_30 hq_30 _ => ?_)
  refine tNv (host := RX6) (As := [.ref q_29, .ref q_30]) (rest := []) F hK hN hO (c_X6_copyRow_g E dA dB rA (riverD (.inl (a, a)) (.inl (b, b)) (.inl (0, 4)) 32 34 36 40 44 48) rc rd tp (riverD (.inl (a, a)) (.inl (b, b)) (.inl (0, 4)) 3 8 3 41 45 49) rD wd1 (xD 12 D) (xD 12 g_8) wd4 ws1 (xD 12 Kn) (xD 12 g_12) ws4 wi1 (xD 48 Q) (xD 48 g_16) wi4 q_29 q_30 (by have h9_ := hq_29; simp at h9_ ⊢; omega) (by have h9_ := hq_30; simp at h9_ ⊢; omega)) ms_X6_copyRow hN.1.2.2.2.2.2 ⟨Nat.le_of_ble_eq_true rfl, Nat.le_of_ble_eq_true rfl⟩ ⟨Nat.le_of_ble_eq_true rfl, Nat.le_of_ble_eq_true rfl⟩ hH hS rfl hl.1 (Nat.le_of_ble_eq_true rfl) dX2_copyOf_117 (fun H locs hq hS => ?_)
  have hH := hq
  have hH : TH E (tbC dA dB rA (riverD (.inl (a, a)) (.inl (b, b)) (.inl (0, 4)) 32 34 36 40 44 48) rc rd tp A14F A14F A4F A4F A14F A14F (riverD (.inl (a, a)) (.inl (b, b)) (.inl (0, 4)) 3 8 3 41 45 49) rD wd1 (xD 12 D) (xD 12 g_8) wd4 ws1 (xD 12 Kn) (xD 12 g_12) ws4 wi1 (xD 48 Q) (xD 48 g_16) wi4) H := hH
  refine lv_aload_n F.1 F.2.1 dX2_copyOf_120 rfl (lv_at hl 1 rfl) ?_
  refine tGetR (j := 10) F hK hH (tyb ha1 (all1 rfl)) rfl (all1 rfl) clX2 (by decide) wd_3_7 dX2_copyOf_121 (fun q_32 hq_32 _ => ?_)
  refine lv_aload_n F.1 F.2.1 dX2_copyOf_124 rfl (lv_at hl 0 rfl) ?_
  refine tGetR (j := 10) F hK hH (tyb ha0 (all1 rfl)) rfl (all1 rfl) clX2 (by decide) wd_3_7 dX2_copyOf_125 (fun q_33 hq_33 _ => ?_)
  refine tNv (host := RX6) (As := [.ref q_32, .ref q_33]) (rest := []) F hK hN hO (c_X6_copyRow_A14F E dA dB rA (riverD (.inl (a, a)) (.inl (b, b)) (.inl (0, 4)) 32 34 36 40 44 48) rc rd tp A14F A14F A4F A4F A14F A14F (riverD (.inl (a, a)) (.inl (b, b)) (.inl (0, 4)) 3 8 3 41 45 49) rD wd1 (xD 12 D) (xD 12 g_8) wd4 ws1 (xD 12 Kn) (xD 12 g_12) ws4 wi1 (xD 48 Q) (xD 48 g_16) wi4 q_32 q_33 hq_32 hq_33) ms_X6_copyRow hN.1.2.2.2.2.2 ⟨Nat.le_of_ble_eq_true rfl, Nat.le_of_ble_eq_true rfl⟩ ⟨Nat.le_of_ble_eq_true rfl, Nat.le_of_ble_eq_true rfl⟩ hH hS rfl hl.1 (Nat.le_of_ble_eq_true rfl) dX2_copyOf_128 (fun H locs hq hS => ?_)
  have hH := hq
  have hH : TH E (tbC dA dB rA (riverD (.inl (a, a)) (.inl (b, b)) (.inl (0, 4)) 32 34 36 40 44 48) rc rd tp A14F A14F A4F A4F A14F A14F (riverD (.inl (a, a)) (.inl (b, b)) (.inl (0, 4)) 3 8 3 41 45 49) rD wd1 (xD 12 D) (xD 12 g_8) wd4 ws1 (xD 12 Kn) (xD 12 g_12) ws4 wi1 (xD 48 Q) (xD 48 g_16) wi4) H := hH
  refine lv_aload_n F.1 F.2.1 dX2_copyOf_131 rfl (lv_at hl 1 rfl) ?_
  refine tGetR (j := 11) F hK hH (tyb ha1 (all1 rfl)) rfl (all1 rfl) clX2 (by decide) wd_3_8 dX2_copyOf_132 (fun q_35 hq_35 _ => ?_)
  refine lv_aload_n F.1 F.2.1 dX2_copyOf_135 rfl (lv_at hl 0 rfl) ?_
  refine tGetR (j := 11) F hK hH (tyb ha0 (all1 rfl)) rfl (all1 rfl) clX2 (by decide) wd_3_8 dX2_copyOf_136 (fun q_36 hq_36 _ => ?_)
  refine tNv (host := RX6) (As := [.ref q_35, .ref q_36]) (rest := []) F hK hN hO (c_X6_copyRow_A14B E dA dB rA (riverD (.inl (a, a)) (.inl (b, b)) (.inl (0, 4)) 32 34 36 40 44 48) rc rd tp A14F A14F A4F A4F A14F A14F (riverD (.inl (a, a)) (.inl (b, b)) (.inl (0, 4)) 3 8 3 41 45 49) rD wd1 (xD 12 D) (xD 12 g_8) wd4 ws1 (xD 12 Kn) (xD 12 g_12) ws4 wi1 (xD 48 Q) (xD 48 g_16) wi4 q_35 q_36 hq_35 hq_36) ms_X6_copyRow hN.1.2.2.2.2.2 ⟨Nat.le_of_ble_eq_true rfl, Nat.le_of_ble_eq_true rfl⟩ ⟨Nat.le_of_ble_eq_true rfl, Nat.le_of_ble_eq_true rfl⟩ hH hS rfl hl.1 (Nat.le_of_ble_eq_true rfl) dX2_copyOf_139 (fun H locs hq hS => ?_)
  have hH := hq
  have hH : TH E (tbC dA dB rA (riverD (.inl (a, a)) (.inl (b, b)) (.inl (0, 4)) 32 34 36 40 44 48) rc rd tp A14F A14F A4F A4F A14F A14F (riverD (.inl (a, a)) (.inl (b, b)) (.inl (0, 4)) 3 8 3 41 45 49) rD wd1 (xD 12 D) (xD 12 g_8) wd4 ws1 (xD 12 Kn) (xD 12 g_12) ws4 wi1 (xD 48 Q) (xD 48 g_16) wi4) H := hH
  refine lv_aload_n F.1 F.2.1 dX2_copyOf_142 rfl (lv_at hl 1 rfl) ?_
  refine tGetR (j := 12) F hK hH (tyb ha1 (all1 rfl)) rfl (all1 rfl) clX2 (by decide) wd_3_9 dX2_copyOf_143 (fun q_38 hq_38 _ => ?_)
  refine lv_aload_n F.1 F.2.1 dX2_copyOf_146 rfl (lv_at hl 0 rfl) ?_
  refine tGetR (j := 12) F hK hH (tyb ha0 (all1 rfl)) rfl (all1 rfl) clX2 (by decide) wd_3_9 dX2_copyOf_147 (fun q_39 hq_39 _ => ?_)
  refine tNv (host := RX6) (As := [.ref q_38, .ref q_39]) (rest := []) F hK hN hO (c_X6_copyRow_A14F E dA dB rA (riverD (.inl (a, a)) (.inl (b, b)) (.inl (0, 4)) 32 34 36 40 44 48) rc rd tp A14F A14F A4F A4F A14F A14F (riverD (.inl (a, a)) (.inl (b, b)) (.inl (0, 4)) 3 8 3 41 45 49) rD wd1 (xD 12 D) (xD 12 g_8) wd4 ws1 (xD 12 Kn) (xD 12 g_12) ws4 wi1 (xD 48 Q) (xD 48 g_16) wi4 q_38 q_39 hq_38 hq_39) ms_X6_copyRow hN.1.2.2.2.2.2 ⟨Nat.le_of_ble_eq_true rfl, Nat.le_of_ble_eq_true rfl⟩ ⟨Nat.le_of_ble_eq_true rfl, Nat.le_of_ble_eq_true rfl⟩ hH hS rfl hl.1 (Nat.le_of_ble_eq_true rfl) dX2_copyOf_150 (fun H locs hq hS => ?_)
  have hH := hq
  have hH : TH E (tbC dA dB rA (riverD (.inl (a, a)) (.inl (b, b)) (.inl (0, 4)) 32 34 36 40 44 48) rc rd tp A14F A14F A4F A4F A14F A14F (riverD (.inl (a, a)) (.inl (b, b)) (.inl (0, 4)) 3 8 3 41 45 49) rD wd1 (xD 12 D) (xD 12 g_8) wd4 ws1 (xD 12 Kn) (xD 12 g_12) ws4 wi1 (xD 48 Q) (xD 48 g_16) wi4) H := hH
  refine lv_aload_n F.1 F.2.1 dX2_copyOf_153 rfl (lv_at hl 1 rfl) ?_
  refine tGetR (j := 13) F hK hH (tyb ha1 (all1 rfl)) rfl (all1 rfl) clX2 (by decide) wd_3_10 dX2_copyOf_154 (fun q_41 hq_41 _ => ?_)
  refine lv_aload_n F.1 F.2.1 dX2_copyOf_157 rfl (lv_at hl 0 rfl) ?_
  refine tGetR (j := 13) F hK hH (tyb ha0 (all1 rfl)) rfl (all1 rfl) clX2 (by decide) wd_3_10 dX2_copyOf_158 (fun q_42 hq_42 _ => ?_)
  refine tNv (host := RX6) (As := [.ref q_41, .ref q_42]) (rest := []) F hK hN hO (c_X6_copyRow_A14L E dA dB rA (riverD (.inl (a, a)) (.inl (b, b)) (.inl (0, 4)) 32 34 36 40 44 48) rc rd tp A14F A14F A4F A4F A14F A14F (riverD (.inl (a, a)) (.inl (b, b)) (.inl (0, 4)) 3 8 3 41 45 49) rD wd1 (xD 12 D) (xD 12 g_8) wd4 ws1 (xD 12 Kn) (xD 12 g_12) ws4 wi1 (xD 48 Q) (xD 48 g_16) wi4 q_41 q_42 hq_41 hq_42) ms_X6_copyRow hN.1.2.2.2.2.2 ⟨Nat.le_of_ble_eq_true rfl, Nat.le_of_ble_eq_true rfl⟩ ⟨Nat.le_of_ble_eq_true rfl, Nat.le_of_ble_eq_true rfl⟩ hH hS rfl hl.1 (Nat.le_of_ble_eq_true rfl) dX2_copyOf_161 (fun H locs hq hS => ?_)
  have hH := hq
  have hH : TH E (tbC dA dB rA (riverD (.inl (a, a)) (.inl (b, b)) (.inl (0, 4)) 32 34 36 40 44 48) rc rd tp A14F A14F A4F A4F A14F A14F (riverD (.inl (a, a)) (.inl (b, b)) (.inl (0, 4)) 3 8 3 41 45 49) rD wd1 (xD 12 D) (xD 12 g_8) wd4 ws1 (xD 12 Kn) (xD 12 g_12) ws4 wi1 (xD 48 Q) (xD 48 g_16) wi4) H := hH
  refine lv_aload_n F.1 F.2.1 dX2_copyOf_164 rfl (lv_at hl 1 rfl) ?_
  refine tGetR (j := 15) F hK hH (tyb ha1 (all1 rfl)) rfl (all1 rfl) clX2 (by decide) wd_3_11 dX2_copyOf_165 (fun q_44 hq_44 _ => ?_)
  refine lv_aload_n F.1 F.2.1 dX2_copyOf_168 rfl (lv_at hl 0 rfl) ?_
  refine tGetR (j := 15) F hK hH (tyb ha0 (all1 rfl)) rfl (all1 rfl) clX2 (by decide) wd_3_11 dX2_copyOf_169 (fun q_45 hq_45 _ => ?_)
  refine tNv (host := RX6) (As := [.ref q_44, .ref q_45]) (rest := []) F hK hN hO (c_X6_copyRow_A4R E dA dB rA (riverD (.inl (a, a)) (.inl (b, b)) (.inl (0, 4)) 32 34 36 40 44 48) rc rd tp A14F A14F A4F A4F A14F A14F (riverD (.inl (a, a)) (.inl (b, b)) (.inl (0, 4)) 3 8 3 41 45 49) rD wd1 (xD 12 D) (xD 12 g_8) wd4 ws1 (xD 12 Kn) (xD 12 g_12) ws4 wi1 (xD 48 Q) (xD 48 g_16) wi4 q_44 q_45 hq_44 hq_45) ms_X6_copyRow hN.1.2.2.2.2.2 ⟨Nat.le_of_ble_eq_true rfl, Nat.le_of_ble_eq_true rfl⟩ ⟨Nat.le_of_ble_eq_true rfl, Nat.le_of_ble_eq_true rfl⟩ hH hS rfl hl.1 (Nat.le_of_ble_eq_true rfl) dX2_copyOf_172 (fun H locs hq hS => ?_)
  have hH := hq
  have hH : TH E (tbC dA dB rA (riverD (.inl (a, a)) (.inl (b, b)) (.inl (0, 4)) 32 34 36 40 44 48) rc rd tp A14F A14F A4F A4F A14F A14F (riverD (.inl (a, a)) (.inl (b, b)) (.inl (0, 4)) 3 8 3 41 45 49) rD wd1 (xD 12 D) (xD 12 g_8) wd4 ws1 (xD 12 Kn) (xD 12 g_12) ws4 wi1 (xD 48 Q) (xD 48 g_16) wi4) H := hH
  refine lv_aload_n F.1 F.2.1 dX2_copyOf_175 rfl (lv_at hl 1 rfl) ?_
  refine tGetR (j := 16) F hK hH (tyb ha1 (all1 rfl)) rfl (all1 rfl) clX2 (by decide) wd_3_12 dX2_copyOf_176 (fun q_47 hq_47 _ => ?_)
  refine lv_aload_n F.1 F.2.1 dX2_copyOf_179 rfl (lv_at hl 0 rfl) ?_
  refine tGetR (j := 16) F hK hH (tyb ha0 (all1 rfl)) rfl (all1 rfl) clX2 (by decide) wd_3_12 dX2_copyOf_180 (fun q_48 hq_48 _ => ?_)
  refine tNv (host := RX6) (As := [.ref q_47, .ref q_48]) (rest := []) F hK hN hO (c_X6_copyRow_A4F E dA dB rA (riverD (.inl (a, a)) (.inl (b, b)) (.inl (0, 4)) 32 34 36 40 44 48) rc rd tp A14F A14F A4F A4F A14F A14F (riverD (.inl (a, a)) (.inl (b, b)) (.inl (0, 4)) 3 8 3 41 45 49) rD wd1 (xD 12 D) (xD 12 g_8) wd4 ws1 (xD 12 Kn) (xD 12 g_12) ws4 wi1 (xD 48 Q) (xD 48 g_16) wi4 q_47 q_48 hq_47 hq_48) ms_X6_copyRow hN.1.2.2.2.2.2 ⟨Nat.le_of_ble_eq_true rfl, Nat.le_of_ble_eq_true rfl⟩ ⟨Nat.le_of_ble_eq_true rfl, Nat.le_of_ble_eq_true rfl⟩ hH hS rfl hl.1 (Nat.le_of_ble_eq_true rfl) dX2_copyOf_183 (fun H locs hq hS => ?_)
  have hH := hq
  have hH : TH E (tbC dA dB rA (riverD (.inl (a, a)) (.inl (b, b)) (.inl (0, 4)) 32 34 36 40 44 48) rc rd tp A14F A14F A4F A4F A14F A14F (riverD (.inl (a, a)) (.inl (b, b)) (.inl (0, 4)) 3 8 3 41 45 49) rD wd1 (xD 12 D) (xD 12 g_8) wd4 ws1 (xD 12 Kn) (xD 12 g_12) ws4 wi1 (xD 48 Q) (xD 48 g_16) wi4) H := hH
  refine lv_aload_n F.1 F.2.1 dX2_copyOf_186 rfl (lv_at hl 1 rfl) ?_
  refine tGetR (j := 17) F hK hH (tyb ha1 (all1 rfl)) rfl (all1 rfl) clX2 (by decide) wd_3_13 dX2_copyOf_187 (fun q_50 hq_50 _ => ?_)
  refine lv_aload_n F.1 F.2.1 dX2_copyOf_190 rfl (lv_at hl 0 rfl) ?_
  refine tGetR (j := 17) F hK hH (tyb ha0 (all1 rfl)) rfl (all1 rfl) clX2 (by decide) wd_3_13 dX2_copyOf_191 (fun q_51 hq_51 _ => ?_)
  refine tNv (host := RX6) (As := [.ref q_50, .ref q_51]) (rest := []) F hK hN hO (c_X6_copyRow_A4F E dA dB rA (riverD (.inl (a, a)) (.inl (b, b)) (.inl (0, 4)) 32 34 36 40 44 48) rc rd tp A14F A14F A4F A4F A14F A14F (riverD (.inl (a, a)) (.inl (b, b)) (.inl (0, 4)) 3 8 3 41 45 49) rD wd1 (xD 12 D) (xD 12 g_8) wd4 ws1 (xD 12 Kn) (xD 12 g_12) ws4 wi1 (xD 48 Q) (xD 48 g_16) wi4 q_50 q_51 hq_50 hq_51) ms_X6_copyRow hN.1.2.2.2.2.2 ⟨Nat.le_of_ble_eq_true rfl, Nat.le_of_ble_eq_true rfl⟩ ⟨Nat.le_of_ble_eq_true rfl, Nat.le_of_ble_eq_true rfl⟩ hH hS rfl hl.1 (Nat.le_of_ble_eq_true rfl) dX2_copyOf_194 (fun H locs hq hS => ?_)
  have hH := hq
  have hH : TH E (tbC dA dB rA (riverD (.inl (a, a)) (.inl (b, b)) (.inl (0, 4)) 32 34 36 40 44 48) rc rd tp A14F A14F A4F A4F A14F A14F (riverD (.inl (a, a)) (.inl (b, b)) (.inl (0, 4)) 3 8 3 41 45 49) rD wd1 (xD 12 D) (xD 12 g_8) wd4 ws1 (xD 12 Kn) (xD 12 g_12) ws4 wi1 (xD 48 Q) (xD 48 g_16) wi4) H := hH
  refine lv_aload_n F.1 F.2.1 dX2_copyOf_197 rfl (lv_at hl 1 rfl) ?_
  refine tGetR (j := 18) F hK hH (tyb ha1 (all1 rfl)) rfl (all1 rfl) clX2 (by decide) wd_3_14 dX2_copyOf_198 (fun q_53 hq_53 _ => ?_)
  refine lv_aload_n F.1 F.2.1 dX2_copyOf_201 rfl (lv_at hl 0 rfl) ?_
  refine tGetR (j := 18) F hK hH (tyb ha0 (all1 rfl)) rfl (all1 rfl) clX2 (by decide) wd_3_14 dX2_copyOf_202 (fun q_54 hq_54 _ => ?_)
  refine tNv (host := RX6) (As := [.ref q_53, .ref q_54]) (rest := []) F hK hN hO (c_X6_copyRow_s E dA dB rA (riverD (.inl (a, a)) (.inl (b, b)) (.inl (0, 4)) 32 34 36 40 44 48) rc rd tp (riverD (.inl (a, a)) (.inl (b, b)) (.inl (0, 4)) 3 8 3 41 45 49) rD wd1 (xD 12 D) (xD 12 g_8) wd4 ws1 (xD 12 Kn) (xD 12 g_12) ws4 wi1 (xD 48 Q) (xD 48 g_16) wi4 q_53 q_54 (by have h9_ := hq_53; simp at h9_ ⊢; omega) (by have h9_ := hq_54; simp at h9_ ⊢; omega)) ms_X6_copyRow hN.1.2.2.2.2.2 ⟨Nat.le_of_ble_eq_true rfl, Nat.le_of_ble_eq_true rfl⟩ ⟨Nat.le_of_ble_eq_true rfl, Nat.le_of_ble_eq_true rfl⟩ hH hS rfl hl.1 (Nat.le_of_ble_eq_true rfl) dX2_copyOf_205 (fun H locs hq hS => ?_)
  have hH := hq
  have hH : TH E (tbC dA dB rA (riverD (.inl (a, a)) (.inl (b, b)) (.inl (0, 4)) 32 34 36 40 44 48) rc rd tp A14F A14F A4F A4F A14F A14F (riverD (.inl (a, a)) (.inl (b, b)) (.inl (0, 4)) 3 8 3 41 45 49) rD wd1 (xD 12 D) (xD 12 g_8) wd4 ws1 (xD 12 Kn) (xD 12 g_12) ws4 wi1 (xD 48 Q) (xD 48 g_16) wi4) H := hH
  exact txV F hS dX2_copyOf_208 (⟨g_8, ⟨hg_8.1, hg_8.2⟩, g_12, ⟨hg_12.1, hg_12.2⟩, g_16, ⟨hg_16.1, hg_16.2⟩, hH⟩)
set_option maxHeartbeats 4000000 in
set_option maxRecDepth 100000 in
theorem c_X2_copyOfx_38_26 (E : Ev) (dA : TD) (dB : TD) (rB : TD) (rc : TD) (rd : TD) (tp : TD) (rC : TD) (wd2 : TD) (wd3 : TD) (ws2 : TD) (ws3 : TD) (wi2 : TD) (wi3 : TD) (Fa4 : Int × Int) (Fb4 : Int × Int) (a : Int) (b : Int) (D : Nat → Int32) (D1 : Nat → Int32) (Kn : Nat → Int32) (Kn1 : Nat → Int32) (Q : Nat → Int32) (Q1 : Nat → Int32) (a0 : Nat) (a1 : Nat) (ha0 : eT E a0 ∈ [38]) (ha1 : eT E a1 ∈ [26]) (ha : 0 ≤ a ∧ a ≤ 12) (hb : 0 ≤ b ∧ b ≤ 14) (hD : ivP 12 (-2) 11 D) (hD1 : ivP 12 (-2) 11 D1) (hKn : ivP 12 (-2147483648) 2147483647 Kn) (hKn1 : ivP 12 (-2147483648) 2147483647 Kn1) (hQ : ivP 48 (-2147483648) 2147483647 Q) (hQ1 : ivP 48 (-2147483648) 2147483647 Q1) (hFa4 : 0 ≤ Fa4.1 ∧ Fa4.2 ≤ 12) (hFb4 : 0 ≤ Fb4.1 ∧ Fb4.2 ≤ 14) : TcV E yX2_copyOf cX2_copyOf 2 ({ frames := 2, cells := 0, slots := 0, locals := 61 }) [.ref a0, .ref a1] (fun H => TH E (tbC dA dB (riverD (.inl (a, a)) (.inl (b, b)) (.inl (0, 4)) 31 33 35 39 43 47) rB rc rd tp A14F A14F A4F A4F A14F A14F rC (riverD (.inl Fa4) (.inl Fb4) (.inl (0, 4)) 3 8 3 42 46 50) (xD 12 D) wd2 wd3 (xD 12 D1) (xD 12 Kn) ws2 ws3 (xD 12 Kn1) (xD 48 Q) wi2 wi3 (xD 48 Q1)) H) (fun H => ∃ D2 : Nat → Int32, (ivP 12 (-2) 11 D2 ∧ ∀ j : Nat, j < 12 → D2 j = D j) ∧ ∃ Kn2 : Nat → Int32, (ivP 12 (-2147483648) 2147483647 Kn2 ∧ ∀ j : Nat, j < 12 → Kn2 j = Kn j) ∧ ∃ Q2 : Nat → Int32, (ivP 48 (-2147483648) 2147483647 Q2 ∧ ∀ j : Nat, j < 48 → Q2 j = Q j) ∧ TH E (tbC dA dB (riverD (.inl (a, a)) (.inl (b, b)) (.inl (0, 4)) 31 33 35 39 43 47) rB rc rd tp A14F A14F A4F A4F A14F A14F rC (riverD (.inl (a, a)) (.inl (b, b)) (.inl (0, 4)) 3 8 3 42 46 50) (xD 12 D) wd2 wd3 (xD 12 D2) (xD 12 Kn) ws2 ws3 (xD 12 Kn2) (xD 48 Q) wi2 wi3 (xD 48 Q2)) H) := by
  refine teV (by decide) (Nat.le_of_ble_eq_true rfl) ?_
  intro p_ ev_ s mi_ below_ meth cd_ ls F hK hN hO hH hS hl
  have hH : TH E (tbC dA dB (riverD (.inl (a, a)) (.inl (b, b)) (.inl (0, 4)) 31 33 35 39 43 47) rB rc rd tp A14F A14F A4F A4F A14F A14F rC (riverD (.inl Fa4) (.inl Fb4) (.inl (0, 4)) 3 8 3 42 46 50) (xD 12 D) wd2 wd3 (xD 12 D1) (xD 12 Kn) ws2 ws3 (xD 12 Kn1) (xD 48 Q) wi2 wi3 (xD 48 Q1)) s.heap := hH
  have hl : lv_has ls 2 [(0, .ref a0), (1, .ref a1)] := hl
  refine lv_aload_n F.1 F.2.1 dX2_copyOf_0 rfl (lv_at hl 0 rfl) ?_
  refine lv_aload_n F.1 F.2.1 dX2_copyOf_1 rfl (lv_at hl 1 rfl) ?_
  refine tGetI (j := 0) F hK hH (tyb ha1 (all1 rfl)) rfl clX2 (by decide) wd_9_11 dX2_copyOf_2 (fun z_1 hz_1 => ?_)
  have ez_1 : 0 ≤ z_1.toInt ∧ z_1.toInt ≤ 12 := by omega
  refine tPutG (j := 0) (t := 38) (fd := (.inl (a, a))) F hK hH hS (List.mem_singleton.mp ha0) (by decide) rfl rfl (fdI (by omega)) (TB1 := (tbC dA dB (riverD (.inl (a, a)) (.inl (b, b)) (.inl (0, 4)) 31 33 35 39 43 47) rB rc rd tp A14F A14F A4F A4F A14F A14F rC (riverD (.inl (a, a)) (.inl Fb4) (.inl (0, 4)) 3 8 3 42 46 50) (xD 12 D) wd2 wd3 (xD 12 D1) (xD 12 Kn) ws2 ws3 (xD 12 Kn1) (xD 48 Q) wi2 wi3 (xD 48 Q1))) rfl clX2 (by decide) wd_9_11 rfl rfl rfl rfl dX2_copyOf_5 (fun H locs hH hS => ?_)
  refine lv_aload_n F.1 F.2.1 dX2_copyOf_8 rfl (lv_at hl 0 rfl) ?_
  refine lv_aload_n F.1 F.2.1 dX2_copyOf_9 rfl (lv_at hl 1 rfl) ?_
  refine tGetI (j := 4) F hK hH (tyb ha1 (all1 rfl)) rfl clX2 (by decide) wd_9_12 dX2_copyOf_10 (fun z_2 hz_2 => ?_)
  have ez_2 : 0 ≤ z_2.toInt ∧ z_2.toInt ≤ 14 := by omega
  refine tPutG (j := 4) (t := 38) (fd := (.inl (b, b))) F hK hH hS (List.mem_singleton.mp ha0) (by decide) rfl rfl (fdI (by omega)) (TB1 := (tbC dA dB (riverD (.inl (a, a)) (.inl (b, b)) (.inl (0, 4)) 31 33 35 39 43 47) rB rc rd tp A14F A14F A4F A4F A14F A14F rC (riverD (.inl (a, a)) (.inl (b, b)) (.inl (0, 4)) 3 8 3 42 46 50) (xD 12 D) wd2 wd3 (xD 12 D1) (xD 12 Kn) ws2 ws3 (xD 12 Kn1) (xD 48 Q) wi2 wi3 (xD 48 Q1))) rfl clX2 (by decide) wd_9_12 rfl rfl rfl rfl dX2_copyOf_13 (fun H locs hH hS => ?_)
  refine lv_aload_n F.1 F.2.1 dX2_copyOf_16 rfl (lv_at hl 0 rfl) ?_
  refine lv_aload_n F.1 F.2.1 dX2_copyOf_17 rfl (lv_at hl 1 rfl) ?_
  refine tGetI (j := 14) F hK hH (tyb ha1 (all1 rfl)) rfl clX2 (by decide) wd_9_13 dX2_copyOf_18 (fun z_3 hz_3 => ?_)
  refine tPut (j := 14) F hK hH hS (tyb ha0 (all1 rfl)) rfl (fdI hz_3) clX2 (by decide) wd_9_13 rfl rfl rfl rfl dX2_copyOf_21 (fun H locs hH hS => ?_)
  refine lv_aload_n F.1 F.2.1 dX2_copyOf_24 rfl (lv_at hl 0 rfl) ?_
  refine lv_aload_n F.1 F.2.1 dX2_copyOf_25 rfl (lv_at hl 1 rfl) ?_
  refine tGetI (j := 19) F hK hH (tyb ha1 (all1 rfl)) rfl clX2 (by decide) wd_3_15 dX2_copyOf_26 (fun z_4 hz_4 => ?_)
  refine tPut (j := 19) F hK hH hS (tyb ha0 (all1 rfl)) rfl (fdI hz_4) clX2 (by decide) wd_3_15 rfl rfl rfl rfl dX2_copyOf_29 (fun H locs hH hS => ?_)
  refine lv_aload_n F.1 F.2.1 dX2_copyOf_32 rfl (lv_at hl 1 rfl) ?_
  refine tGetR (j := 1) F hK hH (tyb ha1 (all1 rfl)) rfl (all1 rfl) clX2 (by decide) wd_2_23 dX2_copyOf_33 (fun q_5 hq_5 _ => ?_)
  refine lv_aload_n F.1 F.2.1 dX2_copyOf_36 rfl (lv_at hl 0 rfl) ?_
  refine tGetR (j := 1) F hK hH (tyb ha0 (all1 rfl)) rfl (all1 rfl) clX2 (by decide) wd_2_23 dX2_copyOf_37 (fun q_6 hq_6 _ => ?_)
  refine tNv (host := RX6) (As := [.ref q_5, .ref q_6]) (rest := []) F hK hN hO (c_X6_copyRow_pd_4_1 E dA dB (riverD (.inl (a, a)) (.inl (b, b)) (.inl (0, 4)) 31 33 35 39 43 47) rB rc rd tp A14F A14F A4F A4F A14F A14F rC (riverD (.inl (a, a)) (.inl (b, b)) (.inl (0, 4)) 3 8 3 42 46 50) wd2 wd3 (xD 12 Kn) ws2 ws3 (xD 12 Kn1) (xD 48 Q) wi2 wi3 (xD 48 Q1) D D1 q_5 q_6 hq_5 hq_6 hD hD1) ms_X6_copyRow hN.1.2.2.2.2.2 ⟨Nat.le_of_ble_eq_true rfl, Nat.le_of_ble_eq_true rfl⟩ ⟨Nat.le_of_ble_eq_true rfl, Nat.le_of_ble_eq_true rfl⟩ hH hS rfl hl.1 (Nat.le_of_ble_eq_true rfl) dX2_copyOf_40 (fun H locs hq hS => ?_)
  obtain ⟨g_8, hg_8, hH⟩ := hq
  have hH : TH E (tbC dA dB (riverD (.inl (a, a)) (.inl (b, b)) (.inl (0, 4)) 31 33 35 39 43 47) rB rc rd tp A14F A14F A4F A4F A14F A14F rC (riverD (.inl (a, a)) (.inl (b, b)) (.inl (0, 4)) 3 8 3 42 46 50) (xD 12 D) wd2 wd3 (xD 12 g_8) (xD 12 Kn) ws2 ws3 (xD 12 Kn1) (xD 48 Q) wi2 wi3 (xD 48 Q1)) H := hH
  refine lv_aload_n F.1 F.2.1 dX2_copyOf_43 rfl (lv_at hl 1 rfl) ?_
  refine tGetR (j := 2) F hK hH (tyb ha1 (all1 rfl)) rfl (all1 rfl) clX2 (by decide) wd_3_0 dX2_copyOf_44 (fun q_9 hq_9 _ => ?_)
  refine lv_aload_n F.1 F.2.1 dX2_copyOf_47 rfl (lv_at hl 0 rfl) ?_
  refine tGetR (j := 2) F hK hH (tyb ha0 (all1 rfl)) rfl (all1 rfl) clX2 (by decide) wd_3_0 dX2_copyOf_48 (fun q_10 hq_10 _ => ?_)
  refine tNv (host := RX6) (As := [.ref q_9, .ref q_10]) (rest := []) F hK hN hO (c_X6_copyRow_ps_4_1 E dA dB (riverD (.inl (a, a)) (.inl (b, b)) (.inl (0, 4)) 31 33 35 39 43 47) rB rc rd tp A14F A14F A4F A4F A14F A14F rC (riverD (.inl (a, a)) (.inl (b, b)) (.inl (0, 4)) 3 8 3 42 46 50) (xD 12 D) wd2 wd3 (xD 12 g_8) ws2 ws3 (xD 48 Q) wi2 wi3 (xD 48 Q1) Kn Kn1 q_9 q_10 hq_9 hq_10 hKn hKn1) ms_X6_copyRow hN.1.2.2.2.2.2 ⟨Nat.le_of_ble_eq_true rfl, Nat.le_of_ble_eq_true rfl⟩ ⟨Nat.le_of_ble_eq_true rfl, Nat.le_of_ble_eq_true rfl⟩ hH hS rfl hl.1 (Nat.le_of_ble_eq_true rfl) dX2_copyOf_51 (fun H locs hq hS => ?_)
  obtain ⟨g_12, hg_12, hH⟩ := hq
  have hH : TH E (tbC dA dB (riverD (.inl (a, a)) (.inl (b, b)) (.inl (0, 4)) 31 33 35 39 43 47) rB rc rd tp A14F A14F A4F A4F A14F A14F rC (riverD (.inl (a, a)) (.inl (b, b)) (.inl (0, 4)) 3 8 3 42 46 50) (xD 12 D) wd2 wd3 (xD 12 g_8) (xD 12 Kn) ws2 ws3 (xD 12 g_12) (xD 48 Q) wi2 wi3 (xD 48 Q1)) H := hH
  refine lv_aload_n F.1 F.2.1 dX2_copyOf_54 rfl (lv_at hl 1 rfl) ?_
  refine tGetR (j := 3) F hK hH (tyb ha1 (all1 rfl)) rfl (all1 rfl) clX2 (by decide) wd_3_1 dX2_copyOf_55 (fun q_13 hq_13 _ => ?_)
  refine lv_aload_n F.1 F.2.1 dX2_copyOf_58 rfl (lv_at hl 0 rfl) ?_
  refine tGetR (j := 3) F hK hH (tyb ha0 (all1 rfl)) rfl (all1 rfl) clX2 (by decide) wd_3_1 dX2_copyOf_59 (fun q_14 hq_14 _ => ?_)
  refine tNv (host := RX6) (As := [.ref q_13, .ref q_14]) (rest := []) F hK hN hO (c_X6_copyRow_pi_4_1 E dA dB (riverD (.inl (a, a)) (.inl (b, b)) (.inl (0, 4)) 31 33 35 39 43 47) rB rc rd tp A14F A14F A4F A4F A14F A14F rC (riverD (.inl (a, a)) (.inl (b, b)) (.inl (0, 4)) 3 8 3 42 46 50) (xD 12 D) wd2 wd3 (xD 12 g_8) (xD 12 Kn) ws2 ws3 (xD 12 g_12) wi2 wi3 Q Q1 q_13 q_14 hq_13 hq_14 hQ hQ1) ms_X6_copyRow hN.1.2.2.2.2.2 ⟨Nat.le_of_ble_eq_true rfl, Nat.le_of_ble_eq_true rfl⟩ ⟨Nat.le_of_ble_eq_true rfl, Nat.le_of_ble_eq_true rfl⟩ hH hS rfl hl.1 (Nat.le_of_ble_eq_true rfl) dX2_copyOf_62 (fun H locs hq hS => ?_)
  obtain ⟨g_16, hg_16, hH⟩ := hq
  have hH : TH E (tbC dA dB (riverD (.inl (a, a)) (.inl (b, b)) (.inl (0, 4)) 31 33 35 39 43 47) rB rc rd tp A14F A14F A4F A4F A14F A14F rC (riverD (.inl (a, a)) (.inl (b, b)) (.inl (0, 4)) 3 8 3 42 46 50) (xD 12 D) wd2 wd3 (xD 12 g_8) (xD 12 Kn) ws2 ws3 (xD 12 g_12) (xD 48 Q) wi2 wi3 (xD 48 g_16)) H := hH
  refine lv_aload_n F.1 F.2.1 dX2_copyOf_65 rfl (lv_at hl 1 rfl) ?_
  refine tGetR (j := 5) F hK hH (tyb ha1 (all1 rfl)) rfl (all1 rfl) clX2 (by decide) wd_3_2 dX2_copyOf_66 (fun q_17 hq_17 _ => ?_)
  refine lv_aload_n F.1 F.2.1 dX2_copyOf_69 rfl (lv_at hl 0 rfl) ?_
  refine tGetR (j := 5) F hK hH (tyb ha0 (all1 rfl)) rfl (all1 rfl) clX2 (by decide) wd_3_2 dX2_copyOf_70 (fun q_18 hq_18 _ => ?_)
  refine tNv (host := RX6) (As := [.ref q_17, .ref q_18]) (rest := []) F hK hN hO (c_X6_copyRow_A14R E dA dB (riverD (.inl (a, a)) (.inl (b, b)) (.inl (0, 4)) 31 33 35 39 43 47) rB rc rd tp A14F A14F A4F A4F A14F A14F rC (riverD (.inl (a, a)) (.inl (b, b)) (.inl (0, 4)) 3 8 3 42 46 50) (xD 12 D) wd2 wd3 (xD 12 g_8) (xD 12 Kn) ws2 ws3 (xD 12 g_12) (xD 48 Q) wi2 wi3 (xD 48 g_16) q_17 q_18 hq_17 hq_18) ms_X6_copyRow hN.1.2.2.2.2.2 ⟨Nat.le_of_ble_eq_true rfl, Nat.le_of_ble_eq_true rfl⟩ ⟨Nat.le_of_ble_eq_true rfl, Nat.le_of_ble_eq_true rfl⟩ hH hS rfl hl.1 (Nat.le_of_ble_eq_true rfl) dX2_copyOf_73 (fun H locs hq hS => ?_)
  have hH := hq
  have hH : TH E (tbC dA dB (riverD (.inl (a, a)) (.inl (b, b)) (.inl (0, 4)) 31 33 35 39 43 47) rB rc rd tp A14F A14F A4F A4F A14F A14F rC (riverD (.inl (a, a)) (.inl (b, b)) (.inl (0, 4)) 3 8 3 42 46 50) (xD 12 D) wd2 wd3 (xD 12 g_8) (xD 12 Kn) ws2 ws3 (xD 12 g_12) (xD 48 Q) wi2 wi3 (xD 48 g_16)) H := hH
  refine lv_aload_n F.1 F.2.1 dX2_copyOf_76 rfl (lv_at hl 1 rfl) ?_
  refine tGetR (j := 6) F hK hH (tyb ha1 (all1 rfl)) rfl (all1 rfl) clX2 (by decide) wd_3_3 dX2_copyOf_77 (fun q_20 hq_20 _ => ?_)
  refine lv_aload_n F.1 F.2.1 dX2_copyOf_80 rfl (lv_at hl 0 rfl) ?_
  refine tGetR (j := 6) F hK hH (tyb ha0 (all1 rfl)) rfl (all1 rfl) clX2 (by decide) wd_3_3 dX2_copyOf_81 (fun q_21 hq_21 _ => ?_)
  refine tNv (host := RX6) (As := [.ref q_20, .ref q_21]) (rest := []) F hK hN hO (c_X6_copyRow_A14F E dA dB (riverD (.inl (a, a)) (.inl (b, b)) (.inl (0, 4)) 31 33 35 39 43 47) rB rc rd tp A14F A14F A4F A4F A14F A14F rC (riverD (.inl (a, a)) (.inl (b, b)) (.inl (0, 4)) 3 8 3 42 46 50) (xD 12 D) wd2 wd3 (xD 12 g_8) (xD 12 Kn) ws2 ws3 (xD 12 g_12) (xD 48 Q) wi2 wi3 (xD 48 g_16) q_20 q_21 hq_20 hq_21) ms_X6_copyRow hN.1.2.2.2.2.2 ⟨Nat.le_of_ble_eq_true rfl, Nat.le_of_ble_eq_true rfl⟩ ⟨Nat.le_of_ble_eq_true rfl, Nat.le_of_ble_eq_true rfl⟩ hH hS rfl hl.1 (Nat.le_of_ble_eq_true rfl) dX2_copyOf_84 (fun H locs hq hS => ?_)
  have hH := hq
  have hH : TH E (tbC dA dB (riverD (.inl (a, a)) (.inl (b, b)) (.inl (0, 4)) 31 33 35 39 43 47) rB rc rd tp A14F A14F A4F A4F A14F A14F rC (riverD (.inl (a, a)) (.inl (b, b)) (.inl (0, 4)) 3 8 3 42 46 50) (xD 12 D) wd2 wd3 (xD 12 g_8) (xD 12 Kn) ws2 ws3 (xD 12 g_12) (xD 48 Q) wi2 wi3 (xD 48 g_16)) H := hH
  refine lv_aload_n F.1 F.2.1 dX2_copyOf_87 rfl (lv_at hl 1 rfl) ?_
  refine tGetR (j := 7) F hK hH (tyb ha1 (all1 rfl)) rfl (all1 rfl) clX2 (by decide) wd_3_4 dX2_copyOf_88 (fun q_23 hq_23 _ => ?_)
  refine lv_aload_n F.1 F.2.1 dX2_copyOf_91 rfl (lv_at hl 0 rfl) ?_
  refine tGetR (j := 7) F hK hH (tyb ha0 (all1 rfl)) rfl (all1 rfl) clX2 (by decide) wd_3_4 dX2_copyOf_92 (fun q_24 hq_24 _ => ?_)
  refine tNv (host := RX6) (As := [.ref q_23, .ref q_24]) (rest := []) F hK hN hO (c_X6_copyRow_f E dA dB (riverD (.inl (a, a)) (.inl (b, b)) (.inl (0, 4)) 31 33 35 39 43 47) rB rc rd tp rC (riverD (.inl (a, a)) (.inl (b, b)) (.inl (0, 4)) 3 8 3 42 46 50) (xD 12 D) wd2 wd3 (xD 12 g_8) (xD 12 Kn) ws2 ws3 (xD 12 g_12) (xD 48 Q) wi2 wi3 (xD 48 g_16) q_23 q_24 (by have h9_ := hq_23; simp at h9_ ⊢; omega) (by have h9_ := hq_24; simp at h9_ ⊢; omega)) ms_X6_copyRow hN.1.2.2.2.2.2 ⟨Nat.le_of_ble_eq_true rfl, Nat.le_of_ble_eq_true rfl⟩ ⟨Nat.le_of_ble_eq_true rfl, Nat.le_of_ble_eq_true rfl⟩ hH hS rfl hl.1 (Nat.le_of_ble_eq_true rfl) dX2_copyOf_95 (fun H locs hq hS => ?_)
  have hH := hq
  have hH : TH E (tbC dA dB (riverD (.inl (a, a)) (.inl (b, b)) (.inl (0, 4)) 31 33 35 39 43 47) rB rc rd tp A14F A14F A4F A4F A14F A14F rC (riverD (.inl (a, a)) (.inl (b, b)) (.inl (0, 4)) 3 8 3 42 46 50) (xD 12 D) wd2 wd3 (xD 12 g_8) (xD 12 Kn) ws2 ws3 (xD 12 g_12) (xD 48 Q) wi2 wi3 (xD 48 g_16)) H := hH
  refine lv_aload_n F.1 F.2.1 dX2_copyOf_98 rfl (lv_at hl 1 rfl) ?_
  refine tGetR (j := 8) F hK hH (tyb ha1 (all1 rfl)) rfl (all1 rfl) clX2 (by decide) wd_3_5 dX2_copyOf_99 (fun q_26 hq_26 _ => ?_)
  refine lv_aload_n F.1 F.2.1 dX2_copyOf_102 rfl (lv_at hl 0 rfl) ?_
  refine tGetR (j := 8) F hK hH (tyb ha0 (all1 rfl)) rfl (all1 rfl) clX2 (by decide) wd_3_5 dX2_copyOf_103 (fun q_27 hq_27 _ => ?_)
  refine tNv (host := RX6) (As := [.ref q_26, .ref q_27]) (rest := []) F hK hN hO (c_X6_copyRow_A14F E dA dB (riverD (.inl (a, a)) (.inl (b, b)) (.inl (0, 4)) 31 33 35 39 43 47) rB rc rd tp A14F A14F A4F A4F A14F A14F rC (riverD (.inl (a, a)) (.inl (b, b)) (.inl (0, 4)) 3 8 3 42 46 50) (xD 12 D) wd2 wd3 (xD 12 g_8) (xD 12 Kn) ws2 ws3 (xD 12 g_12) (xD 48 Q) wi2 wi3 (xD 48 g_16) q_26 q_27 hq_26 hq_27) ms_X6_copyRow hN.1.2.2.2.2.2 ⟨Nat.le_of_ble_eq_true rfl, Nat.le_of_ble_eq_true rfl⟩ ⟨Nat.le_of_ble_eq_true rfl, Nat.le_of_ble_eq_true rfl⟩ hH hS rfl hl.1 (Nat.le_of_ble_eq_true rfl) dX2_copyOf_106 (fun H locs hq hS => ?_)
  have hH := hq
  have hH : TH E (tbC dA dB (riverD (.inl (a, a)) (.inl (b, b)) (.inl (0, 4)) 31 33 35 39 43 47) rB rc rd tp A14F A14F A4F A4F A14F A14F rC (riverD (.inl (a, a)) (.inl (b, b)) (.inl (0, 4)) 3 8 3 42 46 50) (xD 12 D) wd2 wd3 (xD 12 g_8) (xD 12 Kn) ws2 ws3 (xD 12 g_12) (xD 48 Q) wi2 wi3 (xD 48 g_16)) H := hH
  refine lv_aload_n F.1 F.2.1 dX2_copyOf_109 rfl (lv_at hl 1 rfl) ?_
  refine tGetR (j := 9) F hK hH (tyb ha1 (all1 rfl)) rfl (all1 rfl) clX2 (by decide) wd_3_6 dX2_copyOf_110 (fun q_29 hq_29 _ => ?_)
  refine lv_aload_n F.1 F.2.1 dX2_copyOf_113 rfl (lv_at hl 0 rfl) ?_
  refine tGetR (j := 9) F hK hH (tyb ha0 (all1 rfl)) rfl (all1 rfl) clX2 (by decide) wd_3_6 dX2_copyOf_114 (fun q_30 hq_30 _ => ?_)
  refine tNv (host := RX6) (As := [.ref q_29, .ref q_30]) (rest := []) F hK hN hO (c_X6_copyRow_g E dA dB (riverD (.inl (a, a)) (.inl (b, b)) (.inl (0, 4)) 31 33 35 39 43 47) rB rc rd tp rC (riverD (.inl (a, a)) (.inl (b, b)) (.inl (0, 4)) 3 8 3 42 46 50) (xD 12 D) wd2 wd3 (xD 12 g_8) (xD 12 Kn) ws2 ws3 (xD 12 g_12) (xD 48 Q) wi2 wi3 (xD 48 g_16) q_29 q_30 (by have h9_ := hq_29; simp at h9_ ⊢; omega) (by have h9_ := hq_30; simp at h9_ ⊢; omega)) ms_X6_copyRow hN.1.2.2.2.2.2 ⟨Nat.le_of_ble_eq_true rfl, Nat.le_of_ble_eq_true rfl⟩ ⟨Nat.le_of_ble_eq_true rfl, Nat.le_of_ble_eq_true rfl⟩ hH hS rfl hl.1 (Nat.le_of_ble_eq_true rfl) dX2_copyOf_117 (fun H locs hq hS => ?_)
  have hH := hq
  have hH : TH E (tbC dA dB (riverD (.inl (a, a)) (.inl (b, b)) (.inl (0, 4)) 31 33 35 39 43 47) rB rc rd tp A14F A14F A4F A4F A14F A14F rC (riverD (.inl (a, a)) (.inl (b, b)) (.inl (0, 4)) 3 8 3 42 46 50) (xD 12 D) wd2 wd3 (xD 12 g_8) (xD 12 Kn) ws2 ws3 (xD 12 g_12) (xD 48 Q) wi2 wi3 (xD 48 g_16)) H := hH
  refine lv_aload_n F.1 F.2.1 dX2_copyOf_120 rfl (lv_at hl 1 rfl) ?_
  refine tGetR (j := 10) F hK hH (tyb ha1 (all1 rfl)) rfl (all1 rfl) clX2 (by decide) wd_3_7 dX2_copyOf_121 (fun q_32 hq_32 _ => ?_)
  refine lv_aload_n F.1 F.2.1 dX2_copyOf_124 rfl (lv_at hl 0 rfl) ?_
  refine tGetR (j := 10) F hK hH (tyb ha0 (all1 rfl)) rfl (all1 rfl) clX2 (by decide) wd_3_7 dX2_copyOf_125 (fun q_33 hq_33 _ => ?_)
  refine tNv (host := RX6) (As := [.ref q_32, .ref q_33]) (rest := []) F hK hN hO (c_X6_copyRow_A14F E dA dB (riverD (.inl (a, a)) (.inl (b, b)) (.inl (0, 4)) 31 33 35 39 43 47) rB rc rd tp A14F A14F A4F A4F A14F A14F rC (riverD (.inl (a, a)) (.inl (b, b)) (.inl (0, 4)) 3 8 3 42 46 50) (xD 12 D) wd2 wd3 (xD 12 g_8) (xD 12 Kn) ws2 ws3 (xD 12 g_12) (xD 48 Q) wi2 wi3 (xD 48 g_16) q_32 q_33 hq_32 hq_33) ms_X6_copyRow hN.1.2.2.2.2.2 ⟨Nat.le_of_ble_eq_true rfl, Nat.le_of_ble_eq_true rfl⟩ ⟨Nat.le_of_ble_eq_true rfl, Nat.le_of_ble_eq_true rfl⟩ hH hS rfl hl.1 (Nat.le_of_ble_eq_true rfl) dX2_copyOf_128 (fun H locs hq hS => ?_)
  have hH := hq
  have hH : TH E (tbC dA dB (riverD (.inl (a, a)) (.inl (b, b)) (.inl (0, 4)) 31 33 35 39 43 47) rB rc rd tp A14F A14F A4F A4F A14F A14F rC (riverD (.inl (a, a)) (.inl (b, b)) (.inl (0, 4)) 3 8 3 42 46 50) (xD 12 D) wd2 wd3 (xD 12 g_8) (xD 12 Kn) ws2 ws3 (xD 12 g_12) (xD 48 Q) wi2 wi3 (xD 48 g_16)) H := hH
  refine lv_aload_n F.1 F.2.1 dX2_copyOf_131 rfl (lv_at hl 1 rfl) ?_
  refine tGetR (j := 11) F hK hH (tyb ha1 (all1 rfl)) rfl (all1 rfl) clX2 (by decide) wd_3_8 dX2_copyOf_132 (fun q_35 hq_35 _ => ?_)
  refine lv_aload_n F.1 F.2.1 dX2_copyOf_135 rfl (lv_at hl 0 rfl) ?_
  refine tGetR (j := 11) F hK hH (tyb ha0 (all1 rfl)) rfl (all1 rfl) clX2 (by decide) wd_3_8 dX2_copyOf_136 (fun q_36 hq_36 _ => ?_)
  refine tNv (host := RX6) (As := [.ref q_35, .ref q_36]) (rest := []) F hK hN hO (c_X6_copyRow_A14B E dA dB (riverD (.inl (a, a)) (.inl (b, b)) (.inl (0, 4)) 31 33 35 39 43 47) rB rc rd tp A14F A14F A4F A4F A14F A14F rC (riverD (.inl (a, a)) (.inl (b, b)) (.inl (0, 4)) 3 8 3 42 46 50) (xD 12 D) wd2 wd3 (xD 12 g_8) (xD 12 Kn) ws2 ws3 (xD 12 g_12) (xD 48 Q) wi2 wi3 (xD 48 g_16) q_35 q_36 hq_35 hq_36) ms_X6_copyRow hN.1.2.2.2.2.2 ⟨Nat.le_of_ble_eq_true rfl, Nat.le_of_ble_eq_true rfl⟩ ⟨Nat.le_of_ble_eq_true rfl, Nat.le_of_ble_eq_true rfl⟩ hH hS rfl hl.1 (Nat.le_of_ble_eq_true rfl) dX2_copyOf_139 (fun H locs hq hS => ?_)
  have hH := hq
  have hH : TH E (tbC dA dB (riverD (.inl (a, a)) (.inl (b, b)) (.inl (0, 4)) 31 33 35 39 43 47) rB rc rd tp A14F A14F A4F A4F A14F A14F rC (riverD (.inl (a, a)) (.inl (b, b)) (.inl (0, 4)) 3 8 3 42 46 50) (xD 12 D) wd2 wd3 (xD 12 g_8) (xD 12 Kn) ws2 ws3 (xD 12 g_12) (xD 48 Q) wi2 wi3 (xD 48 g_16)) H := hH
  refine lv_aload_n F.1 F.2.1 dX2_copyOf_142 rfl (lv_at hl 1 rfl) ?_
  refine tGetR (j := 12) F hK hH (tyb ha1 (all1 rfl)) rfl (all1 rfl) clX2 (by decide) wd_3_9 dX2_copyOf_143 (fun q_38 hq_38 _ => ?_)
  refine lv_aload_n F.1 F.2.1 dX2_copyOf_146 rfl (lv_at hl 0 rfl) ?_
  refine tGetR (j := 12) F hK hH (tyb ha0 (all1 rfl)) rfl (all1 rfl) clX2 (by decide) wd_3_9 dX2_copyOf_147 (fun q_39 hq_39 _ => ?_)
  refine tNv (host := RX6) (As := [.ref q_38, .ref q_39]) (rest := []) F hK hN hO (c_X6_copyRow_A14F E dA dB (riverD (.inl (a, a)) (.inl (b, b)) (.inl (0, 4)) 31 33 35 39 43 47) rB rc rd tp A14F A14F A4F A4F A14F A14F rC (riverD (.inl (a, a)) (.inl (b, b)) (.inl (0, 4)) 3 8 3 42 46 50) (xD 12 D) wd2 wd3 (xD 12 g_8) (xD 12 Kn) ws2 ws3 (xD 12 g_12) (xD 48 Q) wi2 wi3 (xD 48 g_16) q_38 q_39 hq_38 hq_39) ms_X6_copyRow hN.1.2.2.2.2.2 ⟨Nat.le_of_ble_eq_true rfl, Nat.le_of_ble_eq_true rfl⟩ ⟨Nat.le_of_ble_eq_true rfl, Nat.le_of_ble_eq_true rfl⟩ hH hS rfl hl.1 (Nat.le_of_ble_eq_true rfl) dX2_copyOf_150 (fun H locs hq hS => ?_)
  have hH := hq
  have hH : TH E (tbC dA dB (riverD (.inl (a, a)) (.inl (b, b)) (.inl (0, 4)) 31 33 35 39 43 47) rB rc rd tp A14F A14F A4F A4F A14F A14F rC (riverD (.inl (a, a)) (.inl (b, b)) (.inl (0, 4)) 3 8 3 42 46 50) (xD 12 D) wd2 wd3 (xD 12 g_8) (xD 12 Kn) ws2 ws3 (xD 12 g_12) (xD 48 Q) wi2 wi3 (xD 48 g_16)) H := hH
  refine lv_aload_n F.1 F.2.1 dX2_copyOf_153 rfl (lv_at hl 1 rfl) ?_
  refine tGetR (j := 13) F hK hH (tyb ha1 (all1 rfl)) rfl (all1 rfl) clX2 (by decide) wd_3_10 dX2_copyOf_154 (fun q_41 hq_41 _ => ?_)
  refine lv_aload_n F.1 F.2.1 dX2_copyOf_157 rfl (lv_at hl 0 rfl) ?_
  refine tGetR (j := 13) F hK hH (tyb ha0 (all1 rfl)) rfl (all1 rfl) clX2 (by decide) wd_3_10 dX2_copyOf_158 (fun q_42 hq_42 _ => ?_)
  refine tNv (host := RX6) (As := [.ref q_41, .ref q_42]) (rest := []) F hK hN hO (c_X6_copyRow_A14L E dA dB (riverD (.inl (a, a)) (.inl (b, b)) (.inl (0, 4)) 31 33 35 39 43 47) rB rc rd tp A14F A14F A4F A4F A14F A14F rC (riverD (.inl (a, a)) (.inl (b, b)) (.inl (0, 4)) 3 8 3 42 46 50) (xD 12 D) wd2 wd3 (xD 12 g_8) (xD 12 Kn) ws2 ws3 (xD 12 g_12) (xD 48 Q) wi2 wi3 (xD 48 g_16) q_41 q_42 hq_41 hq_42) ms_X6_copyRow hN.1.2.2.2.2.2 ⟨Nat.le_of_ble_eq_true rfl, Nat.le_of_ble_eq_true rfl⟩ ⟨Nat.le_of_ble_eq_true rfl, Nat.le_of_ble_eq_true rfl⟩ hH hS rfl hl.1 (Nat.le_of_ble_eq_true rfl) dX2_copyOf_161 (fun H locs hq hS => ?_)
  have hH := hq
  have hH : TH E (tbC dA dB (riverD (.inl (a, a)) (.inl (b, b)) (.inl (0, 4)) 31 33 35 39 43 47) rB rc rd tp A14F A14F A4F A4F A14F A14F rC (riverD (.inl (a, a)) (.inl (b, b)) (.inl (0, 4)) 3 8 3 42 46 50) (xD 12 D) wd2 wd3 (xD 12 g_8) (xD 12 Kn) ws2 ws3 (xD 12 g_12) (xD 48 Q) wi2 wi3 (xD 48 g_16)) H := hH
  refine lv_aload_n F.1 F.2.1 dX2_copyOf_164 rfl (lv_at hl 1 rfl) ?_
  refine tGetR (j := 15) F hK hH (tyb ha1 (all1 rfl)) rfl (all1 rfl) clX2 (by decide) wd_3_11 dX2_copyOf_165 (fun q_44 hq_44 _ => ?_)
  refine lv_aload_n F.1 F.2.1 dX2_copyOf_168 rfl (lv_at hl 0 rfl) ?_
  refine tGetR (j := 15) F hK hH (tyb ha0 (all1 rfl)) rfl (all1 rfl) clX2 (by decide) wd_3_11 dX2_copyOf_169 (fun q_45 hq_45 _ => ?_)
  refine tNv (host := RX6) (As := [.ref q_44, .ref q_45]) (rest := []) F hK hN hO (c_X6_copyRow_A4R E dA dB (riverD (.inl (a, a)) (.inl (b, b)) (.inl (0, 4)) 31 33 35 39 43 47) rB rc rd tp A14F A14F A4F A4F A14F A14F rC (riverD (.inl (a, a)) (.inl (b, b)) (.inl (0, 4)) 3 8 3 42 46 50) (xD 12 D) wd2 wd3 (xD 12 g_8) (xD 12 Kn) ws2 ws3 (xD 12 g_12) (xD 48 Q) wi2 wi3 (xD 48 g_16) q_44 q_45 hq_44 hq_45) ms_X6_copyRow hN.1.2.2.2.2.2 ⟨Nat.le_of_ble_eq_true rfl, Nat.le_of_ble_eq_true rfl⟩ ⟨Nat.le_of_ble_eq_true rfl, Nat.le_of_ble_eq_true rfl⟩ hH hS rfl hl.1 (Nat.le_of_ble_eq_true rfl) dX2_copyOf_172 (fun H locs hq hS => ?_)
  have hH := hq
  have hH : TH E (tbC dA dB (riverD (.inl (a, a)) (.inl (b, b)) (.inl (0, 4)) 31 33 35 39 43 47) rB rc rd tp A14F A14F A4F A4F A14F A14F rC (riverD (.inl (a, a)) (.inl (b, b)) (.inl (0, 4)) 3 8 3 42 46 50) (xD 12 D) wd2 wd3 (xD 12 g_8) (xD 12 Kn) ws2 ws3 (xD 12 g_12) (xD 48 Q) wi2 wi3 (xD 48 g_16)) H := hH
  refine lv_aload_n F.1 F.2.1 dX2_copyOf_175 rfl (lv_at hl 1 rfl) ?_
  refine tGetR (j := 16) F hK hH (tyb ha1 (all1 rfl)) rfl (all1 rfl) clX2 (by decide) wd_3_12 dX2_copyOf_176 (fun q_47 hq_47 _ => ?_)
  refine lv_aload_n F.1 F.2.1 dX2_copyOf_179 rfl (lv_at hl 0 rfl) ?_
  refine tGetR (j := 16) F hK hH (tyb ha0 (all1 rfl)) rfl (all1 rfl) clX2 (by decide) wd_3_12 dX2_copyOf_180 (fun q_48 hq_48 _ => ?_)
  refine tNv (host := RX6) (As := [.ref q_47, .ref q_48]) (rest := []) F hK hN hO (c_X6_copyRow_A4F E dA dB (riverD (.inl (a, a)) (.inl (b, b)) (.inl (0, 4)) 31 33 35 39 43 47) rB rc rd tp A14F A14F A4F A4F A14F A14F rC (riverD (.inl (a, a)) (.inl (b, b)) (.inl (0, 4)) 3 8 3 42 46 50) (xD 12 D) wd2 wd3 (xD 12 g_8) (xD 12 Kn) ws2 ws3 (xD 12 g_12) (xD 48 Q) wi2 wi3 (xD 48 g_16) q_47 q_48 hq_47 hq_48) ms_X6_copyRow hN.1.2.2.2.2.2 ⟨Nat.le_of_ble_eq_true rfl, Nat.le_of_ble_eq_true rfl⟩ ⟨Nat.le_of_ble_eq_true rfl, Nat.le_of_ble_eq_true rfl⟩ hH hS rfl hl.1 (Nat.le_of_ble_eq_true rfl) dX2_copyOf_183 (fun H locs hq hS => ?_)
  have hH := hq
  have hH : TH E (tbC dA dB (riverD (.inl (a, a)) (.inl (b, b)) (.inl (0, 4)) 31 33 35 39 43 47) rB rc rd tp A14F A14F A4F A4F A14F A14F rC (riverD (.inl (a, a)) (.inl (b, b)) (.inl (0, 4)) 3 8 3 42 46 50) (xD 12 D) wd2 wd3 (xD 12 g_8) (xD 12 Kn) ws2 ws3 (xD 12 g_12) (xD 48 Q) wi2 wi3 (xD 48 g_16)) H := hH
  refine lv_aload_n F.1 F.2.1 dX2_copyOf_186 rfl (lv_at hl 1 rfl) ?_
  refine tGetR (j := 17) F hK hH (tyb ha1 (all1 rfl)) rfl (all1 rfl) clX2 (by decide) wd_3_13 dX2_copyOf_187 (fun q_50 hq_50 _ => ?_)
  refine lv_aload_n F.1 F.2.1 dX2_copyOf_190 rfl (lv_at hl 0 rfl) ?_
  refine tGetR (j := 17) F hK hH (tyb ha0 (all1 rfl)) rfl (all1 rfl) clX2 (by decide) wd_3_13 dX2_copyOf_191 (fun q_51 hq_51 _ => ?_)
  refine tNv (host := RX6) (As := [.ref q_50, .ref q_51]) (rest := []) F hK hN hO (c_X6_copyRow_A4F E dA dB (riverD (.inl (a, a)) (.inl (b, b)) (.inl (0, 4)) 31 33 35 39 43 47) rB rc rd tp A14F A14F A4F A4F A14F A14F rC (riverD (.inl (a, a)) (.inl (b, b)) (.inl (0, 4)) 3 8 3 42 46 50) (xD 12 D) wd2 wd3 (xD 12 g_8) (xD 12 Kn) ws2 ws3 (xD 12 g_12) (xD 48 Q) wi2 wi3 (xD 48 g_16) q_50 q_51 hq_50 hq_51) ms_X6_copyRow hN.1.2.2.2.2.2 ⟨Nat.le_of_ble_eq_true rfl, Nat.le_of_ble_eq_true rfl⟩ ⟨Nat.le_of_ble_eq_true rfl, Nat.le_of_ble_eq_true rfl⟩ hH hS rfl hl.1 (Nat.le_of_ble_eq_true rfl) dX2_copyOf_194 (fun H locs hq hS => ?_)
  have hH := hq
  have hH : TH E (tbC dA dB (riverD (.inl (a, a)) (.inl (b, b)) (.inl (0, 4)) 31 33 35 39 43 47) rB rc rd tp A14F A14F A4F A4F A14F A14F rC (riverD (.inl (a, a)) (.inl (b, b)) (.inl (0, 4)) 3 8 3 42 46 50) (xD 12 D) wd2 wd3 (xD 12 g_8) (xD 12 Kn) ws2 ws3 (xD 12 g_12) (xD 48 Q) wi2 wi3 (xD 48 g_16)) H := hH
  refine lv_aload_n F.1 F.2.1 dX2_copyOf_197 rfl (lv_at hl 1 rfl) ?_
  refine tGetR (j := 18) F hK hH (tyb ha1 (all1 rfl)) rfl (all1 rfl) clX2 (by decide) wd_3_14 dX2_copyOf_198 (fun q_53 hq_53 _ => ?_)
  refine lv_aload_n F.1 F.2.1 dX2_copyOf_201 rfl (lv_at hl 0 rfl) ?_
  refine tGetR (j := 18) F hK hH (tyb ha0 (all1 rfl)) rfl (all1 rfl) clX2 (by decide) wd_3_14 dX2_copyOf_202 (fun q_54 hq_54 _ => ?_)
  refine tNv (host := RX6) (As := [.ref q_53, .ref q_54]) (rest := []) F hK hN hO (c_X6_copyRow_s E dA dB (riverD (.inl (a, a)) (.inl (b, b)) (.inl (0, 4)) 31 33 35 39 43 47) rB rc rd tp rC (riverD (.inl (a, a)) (.inl (b, b)) (.inl (0, 4)) 3 8 3 42 46 50) (xD 12 D) wd2 wd3 (xD 12 g_8) (xD 12 Kn) ws2 ws3 (xD 12 g_12) (xD 48 Q) wi2 wi3 (xD 48 g_16) q_53 q_54 (by have h9_ := hq_53; simp at h9_ ⊢; omega) (by have h9_ := hq_54; simp at h9_ ⊢; omega)) ms_X6_copyRow hN.1.2.2.2.2.2 ⟨Nat.le_of_ble_eq_true rfl, Nat.le_of_ble_eq_true rfl⟩ ⟨Nat.le_of_ble_eq_true rfl, Nat.le_of_ble_eq_true rfl⟩ hH hS rfl hl.1 (Nat.le_of_ble_eq_true rfl) dX2_copyOf_205 (fun H locs hq hS => ?_)
  have hH := hq
  have hH : TH E (tbC dA dB (riverD (.inl (a, a)) (.inl (b, b)) (.inl (0, 4)) 31 33 35 39 43 47) rB rc rd tp A14F A14F A4F A4F A14F A14F rC (riverD (.inl (a, a)) (.inl (b, b)) (.inl (0, 4)) 3 8 3 42 46 50) (xD 12 D) wd2 wd3 (xD 12 g_8) (xD 12 Kn) ws2 ws3 (xD 12 g_12) (xD 48 Q) wi2 wi3 (xD 48 g_16)) H := hH
  exact txV F hS dX2_copyOf_208 (⟨g_8, ⟨hg_8.1, hg_8.2⟩, g_12, ⟨hg_12.1, hg_12.2⟩, g_16, ⟨hg_16.1, hg_16.2⟩, hH⟩)
set_option maxHeartbeats 4000000 in
set_option maxRecDepth 100000 in
theorem c_X2_copyOfx_38_27 (E : Ev) (dA : TD) (dB : TD) (rA : TD) (rc : TD) (rd : TD) (tp : TD) (rC : TD) (wd1 : TD) (wd3 : TD) (ws1 : TD) (ws3 : TD) (wi1 : TD) (wi3 : TD) (Fa4 : Int × Int) (Fb4 : Int × Int) (a : Int) (b : Int) (D : Nat → Int32) (D1 : Nat → Int32) (Kn : Nat → Int32) (Kn1 : Nat → Int32) (Q : Nat → Int32) (Q1 : Nat → Int32) (a0 : Nat) (a1 : Nat) (ha0 : eT E a0 ∈ [38]) (ha1 : eT E a1 ∈ [27]) (ha : 0 ≤ a ∧ a ≤ 12) (hb : 0 ≤ b ∧ b ≤ 14) (hD : ivP 12 (-2) 11 D) (hD1 : ivP 12 (-2) 11 D1) (hKn : ivP 12 (-2147483648) 2147483647 Kn) (hKn1 : ivP 12 (-2147483648) 2147483647 Kn1) (hQ : ivP 48 (-2147483648) 2147483647 Q) (hQ1 : ivP 48 (-2147483648) 2147483647 Q1) (hFa4 : 0 ≤ Fa4.1 ∧ Fa4.2 ≤ 12) (hFb4 : 0 ≤ Fb4.1 ∧ Fb4.2 ≤ 14) : TcV E yX2_copyOf cX2_copyOf 2 ({ frames := 2, cells := 0, slots := 0, locals := 61 }) [.ref a0, .ref a1] (fun H => TH E (tbC dA dB rA (riverD (.inl (a, a)) (.inl (b, b)) (.inl (0, 4)) 32 34 36 40 44 48) rc rd tp A14F A14F A4F A4F A14F A14F rC (riverD (.inl Fa4) (.inl Fb4) (.inl (0, 4)) 3 8 3 42 46 50) wd1 (xD 12 D) wd3 (xD 12 D1) ws1 (xD 12 Kn) ws3 (xD 12 Kn1) wi1 (xD 48 Q) wi3 (xD 48 Q1)) H) (fun H => ∃ D2 : Nat → Int32, (ivP 12 (-2) 11 D2 ∧ ∀ j : Nat, j < 12 → D2 j = D j) ∧ ∃ Kn2 : Nat → Int32, (ivP 12 (-2147483648) 2147483647 Kn2 ∧ ∀ j : Nat, j < 12 → Kn2 j = Kn j) ∧ ∃ Q2 : Nat → Int32, (ivP 48 (-2147483648) 2147483647 Q2 ∧ ∀ j : Nat, j < 48 → Q2 j = Q j) ∧ TH E (tbC dA dB rA (riverD (.inl (a, a)) (.inl (b, b)) (.inl (0, 4)) 32 34 36 40 44 48) rc rd tp A14F A14F A4F A4F A14F A14F rC (riverD (.inl (a, a)) (.inl (b, b)) (.inl (0, 4)) 3 8 3 42 46 50) wd1 (xD 12 D) wd3 (xD 12 D2) ws1 (xD 12 Kn) ws3 (xD 12 Kn2) wi1 (xD 48 Q) wi3 (xD 48 Q2)) H) := by
  refine teV (by decide) (Nat.le_of_ble_eq_true rfl) ?_
  intro p_ ev_ s mi_ below_ meth cd_ ls F hK hN hO hH hS hl
  have hH : TH E (tbC dA dB rA (riverD (.inl (a, a)) (.inl (b, b)) (.inl (0, 4)) 32 34 36 40 44 48) rc rd tp A14F A14F A4F A4F A14F A14F rC (riverD (.inl Fa4) (.inl Fb4) (.inl (0, 4)) 3 8 3 42 46 50) wd1 (xD 12 D) wd3 (xD 12 D1) ws1 (xD 12 Kn) ws3 (xD 12 Kn1) wi1 (xD 48 Q) wi3 (xD 48 Q1)) s.heap := hH
  have hl : lv_has ls 2 [(0, .ref a0), (1, .ref a1)] := hl
  refine lv_aload_n F.1 F.2.1 dX2_copyOf_0 rfl (lv_at hl 0 rfl) ?_
  refine lv_aload_n F.1 F.2.1 dX2_copyOf_1 rfl (lv_at hl 1 rfl) ?_
  refine tGetI (j := 0) F hK hH (tyb ha1 (all1 rfl)) rfl clX2 (by decide) wd_9_11 dX2_copyOf_2 (fun z_1 hz_1 => ?_)
  have ez_1 : 0 ≤ z_1.toInt ∧ z_1.toInt ≤ 12 := by omega
  refine tPutG (j := 0) (t := 38) (fd := (.inl (a, a))) F hK hH hS (List.mem_singleton.mp ha0) (by decide) rfl rfl (fdI (by omega)) (TB1 := (tbC dA dB rA (riverD (.inl (a, a)) (.inl (b, b)) (.inl (0, 4)) 32 34 36 40 44 48) rc rd tp A14F A14F A4F A4F A14F A14F rC (riverD (.inl (a, a)) (.inl Fb4) (.inl (0, 4)) 3 8 3 42 46 50) wd1 (xD 12 D) wd3 (xD 12 D1) ws1 (xD 12 Kn) ws3 (xD 12 Kn1) wi1 (xD 48 Q) wi3 (xD 48 Q1))) rfl clX2 (by decide) wd_9_11 rfl rfl rfl rfl dX2_copyOf_5 (fun H locs hH hS => ?_)
  refine lv_aload_n F.1 F.2.1 dX2_copyOf_8 rfl (lv_at hl 0 rfl) ?_
  refine lv_aload_n F.1 F.2.1 dX2_copyOf_9 rfl (lv_at hl 1 rfl) ?_
  refine tGetI (j := 4) F hK hH (tyb ha1 (all1 rfl)) rfl clX2 (by decide) wd_9_12 dX2_copyOf_10 (fun z_2 hz_2 => ?_)
  have ez_2 : 0 ≤ z_2.toInt ∧ z_2.toInt ≤ 14 := by omega
  refine tPutG (j := 4) (t := 38) (fd := (.inl (b, b))) F hK hH hS (List.mem_singleton.mp ha0) (by decide) rfl rfl (fdI (by omega)) (TB1 := (tbC dA dB rA (riverD (.inl (a, a)) (.inl (b, b)) (.inl (0, 4)) 32 34 36 40 44 48) rc rd tp A14F A14F A4F A4F A14F A14F rC (riverD (.inl (a, a)) (.inl (b, b)) (.inl (0, 4)) 3 8 3 42 46 50) wd1 (xD 12 D) wd3 (xD 12 D1) ws1 (xD 12 Kn) ws3 (xD 12 Kn1) wi1 (xD 48 Q) wi3 (xD 48 Q1))) rfl clX2 (by decide) wd_9_12 rfl rfl rfl rfl dX2_copyOf_13 (fun H locs hH hS => ?_)
  refine lv_aload_n F.1 F.2.1 dX2_copyOf_16 rfl (lv_at hl 0 rfl) ?_
  refine lv_aload_n F.1 F.2.1 dX2_copyOf_17 rfl (lv_at hl 1 rfl) ?_
  refine tGetI (j := 14) F hK hH (tyb ha1 (all1 rfl)) rfl clX2 (by decide) wd_9_13 dX2_copyOf_18 (fun z_3 hz_3 => ?_)
  refine tPut (j := 14) F hK hH hS (tyb ha0 (all1 rfl)) rfl (fdI hz_3) clX2 (by decide) wd_9_13 rfl rfl rfl rfl dX2_copyOf_21 (fun H locs hH hS => ?_)
  refine lv_aload_n F.1 F.2.1 dX2_copyOf_24 rfl (lv_at hl 0 rfl) ?_
  refine lv_aload_n F.1 F.2.1 dX2_copyOf_25 rfl (lv_at hl 1 rfl) ?_
  refine tGetI (j := 19) F hK hH (tyb ha1 (all1 rfl)) rfl clX2 (by decide) wd_3_15 dX2_copyOf_26 (fun z_4 hz_4 => ?_)
  refine tPut (j := 19) F hK hH hS (tyb ha0 (all1 rfl)) rfl (fdI hz_4) clX2 (by decide) wd_3_15 rfl rfl rfl rfl dX2_copyOf_29 (fun H locs hH hS => ?_)
  refine lv_aload_n F.1 F.2.1 dX2_copyOf_32 rfl (lv_at hl 1 rfl) ?_
  refine tGetR (j := 1) F hK hH (tyb ha1 (all1 rfl)) rfl (all1 rfl) clX2 (by decide) wd_2_23 dX2_copyOf_33 (fun q_5 hq_5 _ => ?_)
  refine lv_aload_n F.1 F.2.1 dX2_copyOf_36 rfl (lv_at hl 0 rfl) ?_
  refine tGetR (j := 1) F hK hH (tyb ha0 (all1 rfl)) rfl (all1 rfl) clX2 (by decide) wd_2_23 dX2_copyOf_37 (fun q_6 hq_6 _ => ?_)
  refine tNv (host := RX6) (As := [.ref q_5, .ref q_6]) (rest := []) F hK hN hO (c_X6_copyRow_pd_4_2 E dA dB rA (riverD (.inl (a, a)) (.inl (b, b)) (.inl (0, 4)) 32 34 36 40 44 48) rc rd tp A14F A14F A4F A4F A14F A14F rC (riverD (.inl (a, a)) (.inl (b, b)) (.inl (0, 4)) 3 8 3 42 46 50) wd1 wd3 ws1 (xD 12 Kn) ws3 (xD 12 Kn1) wi1 (xD 48 Q) wi3 (xD 48 Q1) D D1 q_5 q_6 hq_5 hq_6 hD hD1) ms_X6_copyRow hN.1.2.2.2.2.2 ⟨Nat.le_of_ble_eq_true rfl, Nat.le_of_ble_eq_true rfl⟩ ⟨Nat.le_of_ble_eq_true rfl, Nat.le_of_ble_eq_true rfl⟩ hH hS rfl hl.1 (Nat.le_of_ble_eq_true rfl) dX2_copyOf_40 (fun H locs hq hS => ?_)
  obtain ⟨g_8, hg_8, hH⟩ := hq
  have hH : TH E (tbC dA dB rA (riverD (.inl (a, a)) (.inl (b, b)) (.inl (0, 4)) 32 34 36 40 44 48) rc rd tp A14F A14F A4F A4F A14F A14F rC (riverD (.inl (a, a)) (.inl (b, b)) (.inl (0, 4)) 3 8 3 42 46 50) wd1 (xD 12 D) wd3 (xD 12 g_8) ws1 (xD 12 Kn) ws3 (xD 12 Kn1) wi1 (xD 48 Q) wi3 (xD 48 Q1)) H := hH
  refine lv_aload_n F.1 F.2.1 dX2_copyOf_43 rfl (lv_at hl 1 rfl) ?_
  refine tGetR (j := 2) F hK hH (tyb ha1 (all1 rfl)) rfl (all1 rfl) clX2 (by decide) wd_3_0 dX2_copyOf_44 (fun q_9 hq_9 _ => ?_)
  refine lv_aload_n F.1 F.2.1 dX2_copyOf_47 rfl (lv_at hl 0 rfl) ?_
  refine tGetR (j := 2) F hK hH (tyb ha0 (all1 rfl)) rfl (all1 rfl) clX2 (by decide) wd_3_0 dX2_copyOf_48 (fun q_10 hq_10 _ => ?_)
  refine tNv (host := RX6) (As := [.ref q_9, .ref q_10]) (rest := []) F hK hN hO (c_X6_copyRow_ps_4_2 E dA dB rA (riverD (.inl (a, a)) (.inl (b, b)) (.inl (0, 4)) 32 34 36 40 44 48) rc rd tp A14F A14F A4F A4F A14F A14F rC (riverD (.inl (a, a)) (.inl (b, b)) (.inl (0, 4)) 3 8 3 42 46 50) wd1 (xD 12 D) wd3 (xD 12 g_8) ws1 ws3 wi1 (xD 48 Q) wi3 (xD 48 Q1) Kn Kn1 q_9 q_10 hq_9 hq_10 hKn hKn1) ms_X6_copyRow hN.1.2.2.2.2.2 ⟨Nat.le_of_ble_eq_true rfl, Nat.le_of_ble_eq_true rfl⟩ ⟨Nat.le_of_ble_eq_true rfl, Nat.le_of_ble_eq_true rfl⟩ hH hS rfl hl.1 (Nat.le_of_ble_eq_true rfl) dX2_copyOf_51 (fun H locs hq hS => ?_)
  obtain ⟨g_12, hg_12, hH⟩ := hq
  have hH : TH E (tbC dA dB rA (riverD (.inl (a, a)) (.inl (b, b)) (.inl (0, 4)) 32 34 36 40 44 48) rc rd tp A14F A14F A4F A4F A14F A14F rC (riverD (.inl (a, a)) (.inl (b, b)) (.inl (0, 4)) 3 8 3 42 46 50) wd1 (xD 12 D) wd3 (xD 12 g_8) ws1 (xD 12 Kn) ws3 (xD 12 g_12) wi1 (xD 48 Q) wi3 (xD 48 Q1)) H := hH
  refine lv_aload_n F.1 F.2.1 dX2_copyOf_54 rfl (lv_at hl 1 rfl) ?_
  refine tGetR (j := 3) F hK hH (tyb ha1 (all1 rfl)) rfl (all1 rfl) clX2 (by decide) wd_3_1 dX2_copyOf_55 (fun q_13 hq_13 _ => ?_)
  refine lv_aload_n F.1 F.2.1 dX2_copyOf_58 rfl (lv_at hl 0 rfl) ?_
  refine tGetR (j := 3) F hK hH (tyb ha0 (all1 rfl)) rfl (all1 rfl) clX2 (by decide) wd_3_1 dX2_copyOf_59 (fun q_14 hq_14 _ => ?_)
  refine tNv (host := RX6) (As := [.ref q_13, .ref q_14]) (rest := []) F hK hN hO (c_X6_copyRow_pi_4_2 E dA dB rA (riverD (.inl (a, a)) (.inl (b, b)) (.inl (0, 4)) 32 34 36 40 44 48) rc rd tp A14F A14F A4F A4F A14F A14F rC (riverD (.inl (a, a)) (.inl (b, b)) (.inl (0, 4)) 3 8 3 42 46 50) wd1 (xD 12 D) wd3 (xD 12 g_8) ws1 (xD 12 Kn) ws3 (xD 12 g_12) wi1 wi3 Q Q1 q_13 q_14 hq_13 hq_14 hQ hQ1) ms_X6_copyRow hN.1.2.2.2.2.2 ⟨Nat.le_of_ble_eq_true rfl, Nat.le_of_ble_eq_true rfl⟩ ⟨Nat.le_of_ble_eq_true rfl, Nat.le_of_ble_eq_true rfl⟩ hH hS rfl hl.1 (Nat.le_of_ble_eq_true rfl) dX2_copyOf_62 (fun H locs hq hS => ?_)
  obtain ⟨g_16, hg_16, hH⟩ := hq
  have hH : TH E (tbC dA dB rA (riverD (.inl (a, a)) (.inl (b, b)) (.inl (0, 4)) 32 34 36 40 44 48) rc rd tp A14F A14F A4F A4F A14F A14F rC (riverD (.inl (a, a)) (.inl (b, b)) (.inl (0, 4)) 3 8 3 42 46 50) wd1 (xD 12 D) wd3 (xD 12 g_8) ws1 (xD 12 Kn) ws3 (xD 12 g_12) wi1 (xD 48 Q) wi3 (xD 48 g_16)) H := hH
  refine lv_aload_n F.1 F.2.1 dX2_copyOf_65 rfl (lv_at hl 1 rfl) ?_
  refine tGetR (j := 5) F hK hH (tyb ha1 (all1 rfl)) rfl (all1 rfl) clX2 (by decide) wd_3_2 dX2_copyOf_66 (fun q_17 hq_17 _ => ?_)
  refine lv_aload_n F.1 F.2.1 dX2_copyOf_69 rfl (lv_at hl 0 rfl) ?_
  refine tGetR (j := 5) F hK hH (tyb ha0 (all1 rfl)) rfl (all1 rfl) clX2 (by decide) wd_3_2 dX2_copyOf_70 (fun q_18 hq_18 _ => ?_)
  refine tNv (host := RX6) (As := [.ref q_17, .ref q_18]) (rest := []) F hK hN hO (c_X6_copyRow_A14R E dA dB rA (riverD (.inl (a, a)) (.inl (b, b)) (.inl (0, 4)) 32 34 36 40 44 48) rc rd tp A14F A14F A4F A4F A14F A14F rC (riverD (.inl (a, a)) (.inl (b, b)) (.inl (0, 4)) 3 8 3 42 46 50) wd1 (xD 12 D) wd3 (xD 12 g_8) ws1 (xD 12 Kn) ws3 (xD 12 g_12) wi1 (xD 48 Q) wi3 (xD 48 g_16) q_17 q_18 hq_17 hq_18) ms_X6_copyRow hN.1.2.2.2.2.2 ⟨Nat.le_of_ble_eq_true rfl, Nat.le_of_ble_eq_true rfl⟩ ⟨Nat.le_of_ble_eq_true rfl, Nat.le_of_ble_eq_true rfl⟩ hH hS rfl hl.1 (Nat.le_of_ble_eq_true rfl) dX2_copyOf_73 (fun H locs hq hS => ?_)
  have hH := hq
  have hH : TH E (tbC dA dB rA (riverD (.inl (a, a)) (.inl (b, b)) (.inl (0, 4)) 32 34 36 40 44 48) rc rd tp A14F A14F A4F A4F A14F A14F rC (riverD (.inl (a, a)) (.inl (b, b)) (.inl (0, 4)) 3 8 3 42 46 50) wd1 (xD 12 D) wd3 (xD 12 g_8) ws1 (xD 12 Kn) ws3 (xD 12 g_12) wi1 (xD 48 Q) wi3 (xD 48 g_16)) H := hH
  refine lv_aload_n F.1 F.2.1 dX2_copyOf_76 rfl (lv_at hl 1 rfl) ?_
  refine tGetR (j := 6) F hK hH (tyb ha1 (all1 rfl)) rfl (all1 rfl) clX2 (by decide) wd_3_3 dX2_copyOf_77 (fun q_20 hq_20 _ => ?_)
  refine lv_aload_n F.1 F.2.1 dX2_copyOf_80 rfl (lv_at hl 0 rfl) ?_
  refine tGetR (j := 6) F hK hH (tyb ha0 (all1 rfl)) rfl (all1 rfl) clX2 (by decide) wd_3_3 dX2_copyOf_81 (fun q_21 hq_21 _ => ?_)
  refine tNv (host := RX6) (As := [.ref q_20, .ref q_21]) (rest := []) F hK hN hO (c_X6_copyRow_A14F E dA dB rA (riverD (.inl (a, a)) (.inl (b, b)) (.inl (0, 4)) 32 34 36 40 44 48) rc rd tp A14F A14F A4F A4F A14F A14F rC (riverD (.inl (a, a)) (.inl (b, b)) (.inl (0, 4)) 3 8 3 42 46 50) wd1 (xD 12 D) wd3 (xD 12 g_8) ws1 (xD 12 Kn) ws3 (xD 12 g_12) wi1 (xD 48 Q) wi3 (xD 48 g_16) q_20 q_21 hq_20 hq_21) ms_X6_copyRow hN.1.2.2.2.2.2 ⟨Nat.le_of_ble_eq_true rfl, Nat.le_of_ble_eq_true rfl⟩ ⟨Nat.le_of_ble_eq_true rfl, Nat.le_of_ble_eq_true rfl⟩ hH hS rfl hl.1 (Nat.le_of_ble_eq_true rfl) dX2_copyOf_84 (fun H locs hq hS => ?_)
  have hH := hq
  have hH : TH E (tbC dA dB rA (riverD (.inl (a, a)) (.inl (b, b)) (.inl (0, 4)) 32 34 36 40 44 48) rc rd tp A14F A14F A4F A4F A14F A14F rC (riverD (.inl (a, a)) (.inl (b, b)) (.inl (0, 4)) 3 8 3 42 46 50) wd1 (xD 12 D) wd3 (xD 12 g_8) ws1 (xD 12 Kn) ws3 (xD 12 g_12) wi1 (xD 48 Q) wi3 (xD 48 g_16)) H := hH
  refine lv_aload_n F.1 F.2.1 dX2_copyOf_87 rfl (lv_at hl 1 rfl) ?_
  refine tGetR (j := 7) F hK hH (tyb ha1 (all1 rfl)) rfl (all1 rfl) clX2 (by decide) wd_3_4 dX2_copyOf_88 (fun q_23 hq_23 _ => ?_)
  refine lv_aload_n F.1 F.2.1 dX2_copyOf_91 rfl (lv_at hl 0 rfl) ?_
  refine tGetR (j := 7) F hK hH (tyb ha0 (all1 rfl)) rfl (all1 rfl) clX2 (by decide) wd_3_4 dX2_copyOf_92 (fun q_24 hq_24 _ => ?_)
  refine tNv (host := RX6) (As := [.ref q_23, .ref q_24]) (rest := []) F hK hN hO (c_X6_copyRow_f E dA dB rA (riverD (.inl (a, a)) (.inl (b, b)) (.inl (0, 4)) 32 34 36 40 44 48) rc rd tp rC (riverD (.inl (a, a)) (.inl (b, b)) (.inl (0, 4)) 3 8 3 42 46 50) wd1 (xD 12 D) wd3 (xD 12 g_8) ws1 (xD 12 Kn) ws3 (xD 12 g_12) wi1 (xD 48 Q) wi3 (xD 48 g_16) q_23 q_24 (by have h9_ := hq_23; simp at h9_ ⊢; omega) (by have h9_ := hq_24; simp at h9_ ⊢; omega)) ms_X6_copyRow hN.1.2.2.2.2.2 ⟨Nat.le_of_ble_eq_true rfl, Nat.le_of_ble_eq_true rfl⟩ ⟨Nat.le_of_ble_eq_true rfl, Nat.le_of_ble_eq_true rfl⟩ hH hS rfl hl.1 (Nat.le_of_ble_eq_true rfl) dX2_copyOf_95 (fun H locs hq hS => ?_)
  have hH := hq
  have hH : TH E (tbC dA dB rA (riverD (.inl (a, a)) (.inl (b, b)) (.inl (0, 4)) 32 34 36 40 44 48) rc rd tp A14F A14F A4F A4F A14F A14F rC (riverD (.inl (a, a)) (.inl (b, b)) (.inl (0, 4)) 3 8 3 42 46 50) wd1 (xD 12 D) wd3 (xD 12 g_8) ws1 (xD 12 Kn) ws3 (xD 12 g_12) wi1 (xD 48 Q) wi3 (xD 48 g_16)) H := hH
  refine lv_aload_n F.1 F.2.1 dX2_copyOf_98 rfl (lv_at hl 1 rfl) ?_
  refine tGetR (j := 8) F hK hH (tyb ha1 (all1 rfl)) rfl (all1 rfl) clX2 (by decide) wd_3_5 dX2_copyOf_99 (fun q_26 hq_26 _ => ?_)
  refine lv_aload_n F.1 F.2.1 dX2_copyOf_102 rfl (lv_at hl 0 rfl) ?_
  refine tGetR (j := 8) F hK hH (tyb ha0 (all1 rfl)) rfl (all1 rfl) clX2 (by decide) wd_3_5 dX2_copyOf_103 (fun q_27 hq_27 _ => ?_)
  refine tNv (host := RX6) (As := [.ref q_26, .ref q_27]) (rest := []) F hK hN hO (c_X6_copyRow_A14F E dA dB rA (riverD (.inl (a, a)) (.inl (b, b)) (.inl (0, 4)) 32 34 36 40 44 48) rc rd tp A14F A14F A4F A4F A14F A14F rC (riverD (.inl (a, a)) (.inl (b, b)) (.inl (0, 4)) 3 8 3 42 46 50) wd1 (xD 12 D) wd3 (xD 12 g_8) ws1 (xD 12 Kn) ws3 (xD 12 g_12) wi1 (xD 48 Q) wi3 (xD 48 g_16) q_26 q_27 hq_26 hq_27) ms_X6_copyRow hN.1.2.2.2.2.2 ⟨Nat.le_of_ble_eq_true rfl, Nat.le_of_ble_eq_true rfl⟩ ⟨Nat.le_of_ble_eq_true rfl, Nat.le_of_ble_eq_true rfl⟩ hH hS rfl hl.1 (Nat.le_of_ble_eq_true rfl) dX2_copyOf_106 (fun H locs hq hS => ?_)
  have hH := hq
  have hH : TH E (tbC dA dB rA (riverD (.inl (a, a)) (.inl (b, b)) (.inl (0, 4)) 32 34 36 40 44 48) rc rd tp A14F A14F A4F A4F A14F A14F rC (riverD (.inl (a, a)) (.inl (b, b)) (.inl (0, 4)) 3 8 3 42 46 50) wd1 (xD 12 D) wd3 (xD 12 g_8) ws1 (xD 12 Kn) ws3 (xD 12 g_12) wi1 (xD 48 Q) wi3 (xD 48 g_16)) H := hH
  refine lv_aload_n F.1 F.2.1 dX2_copyOf_109 rfl (lv_at hl 1 rfl) ?_
  refine tGetR (j := 9) F hK hH (tyb ha1 (all1 rfl)) rfl (all1 rfl) clX2 (by decide) wd_3_6 dX2_copyOf_110 (fun q_29 hq_29 _ => ?_)
  refine lv_aload_n F.1 F.2.1 dX2_copyOf_113 rfl (lv_at hl 0 rfl) ?_
  refine tGetR (j := 9) F hK hH (tyb ha0 (all1 rfl)) rfl (all1 rfl) clX2 (by decide) wd_3_6 dX2_copyOf_114 (fun q_30 hq_30 _ => ?_)
  refine tNv (host := RX6) (As := [.ref q_29, .ref q_30]) (rest := []) F hK hN hO (c_X6_copyRow_g E dA dB rA (riverD (.inl (a, a)) (.inl (b, b)) (.inl (0, 4)) 32 34 36 40 44 48) rc rd tp rC (riverD (.inl (a, a)) (.inl (b, b)) (.inl (0, 4)) 3 8 3 42 46 50) wd1 (xD 12 D) wd3 (xD 12 g_8) ws1 (xD 12 Kn) ws3 (xD 12 g_12) wi1 (xD 48 Q) wi3 (xD 48 g_16) q_29 q_30 (by have h9_ := hq_29; simp at h9_ ⊢; omega) (by have h9_ := hq_30; simp at h9_ ⊢; omega)) ms_X6_copyRow hN.1.2.2.2.2.2 ⟨Nat.le_of_ble_eq_true rfl, Nat.le_of_ble_eq_true rfl⟩ ⟨Nat.le_of_ble_eq_true rfl, Nat.le_of_ble_eq_true rfl⟩ hH hS rfl hl.1 (Nat.le_of_ble_eq_true rfl) dX2_copyOf_117 (fun H locs hq hS => ?_)
  have hH := hq
  have hH : TH E (tbC dA dB rA (riverD (.inl (a, a)) (.inl (b, b)) (.inl (0, 4)) 32 34 36 40 44 48) rc rd tp A14F A14F A4F A4F A14F A14F rC (riverD (.inl (a, a)) (.inl (b, b)) (.inl (0, 4)) 3 8 3 42 46 50) wd1 (xD 12 D) wd3 (xD 12 g_8) ws1 (xD 12 Kn) ws3 (xD 12 g_12) wi1 (xD 48 Q) wi3 (xD 48 g_16)) H := hH
  refine lv_aload_n F.1 F.2.1 dX2_copyOf_120 rfl (lv_at hl 1 rfl) ?_
  refine tGetR (j := 10) F hK hH (tyb ha1 (all1 rfl)) rfl (all1 rfl) clX2 (by decide) wd_3_7 dX2_copyOf_121 (fun q_32 hq_32 _ => ?_)
  refine lv_aload_n F.1 F.2.1 dX2_copyOf_124 rfl (lv_at hl 0 rfl) ?_
  refine tGetR (j := 10) F hK hH (tyb ha0 (all1 rfl)) rfl (all1 rfl) clX2 (by decide) wd_3_7 dX2_copyOf_125 (fun q_33 hq_33 _ => ?_)
  refine tNv (host := RX6) (As := [.ref q_32, .ref q_33]) (rest := []) F hK hN hO (c_X6_copyRow_A14F E dA dB rA (riverD (.inl (a, a)) (.inl (b, b)) (.inl (0, 4)) 32 34 36 40 44 48) rc rd tp A14F A14F A4F A4F A14F A14F rC (riverD (.inl (a, a)) (.inl (b, b)) (.inl (0, 4)) 3 8 3 42 46 50) wd1 (xD 12 D) wd3 (xD 12 g_8) ws1 (xD 12 Kn) ws3 (xD 12 g_12) wi1 (xD 48 Q) wi3 (xD 48 g_16) q_32 q_33 hq_32 hq_33) ms_X6_copyRow hN.1.2.2.2.2.2 ⟨Nat.le_of_ble_eq_true rfl, Nat.le_of_ble_eq_true rfl⟩ ⟨Nat.le_of_ble_eq_true rfl, Nat.le_of_ble_eq_true rfl⟩ hH hS rfl hl.1 (Nat.le_of_ble_eq_true rfl) dX2_copyOf_128 (fun H locs hq hS => ?_)
  have hH := hq
  have hH : TH E (tbC dA dB rA (riverD (.inl (a, a)) (.inl (b, b)) (.inl (0, 4)) 32 34 36 40 44 48) rc rd tp A14F A14F A4F A4F A14F A14F rC (riverD (.inl (a, a)) (.inl (b, b)) (.inl (0, 4)) 3 8 3 42 46 50) wd1 (xD 12 D) wd3 (xD 12 g_8) ws1 (xD 12 Kn) ws3 (xD 12 g_12) wi1 (xD 48 Q) wi3 (xD 48 g_16)) H := hH
  refine lv_aload_n F.1 F.2.1 dX2_copyOf_131 rfl (lv_at hl 1 rfl) ?_
  refine tGetR (j := 11) F hK hH (tyb ha1 (all1 rfl)) rfl (all1 rfl) clX2 (by decide) wd_3_8 dX2_copyOf_132 (fun q_35 hq_35 _ => ?_)
  refine lv_aload_n F.1 F.2.1 dX2_copyOf_135 rfl (lv_at hl 0 rfl) ?_
  refine tGetR (j := 11) F hK hH (tyb ha0 (all1 rfl)) rfl (all1 rfl) clX2 (by decide) wd_3_8 dX2_copyOf_136 (fun q_36 hq_36 _ => ?_)
  refine tNv (host := RX6) (As := [.ref q_35, .ref q_36]) (rest := []) F hK hN hO (c_X6_copyRow_A14B E dA dB rA (riverD (.inl (a, a)) (.inl (b, b)) (.inl (0, 4)) 32 34 36 40 44 48) rc rd tp A14F A14F A4F A4F A14F A14F rC (riverD (.inl (a, a)) (.inl (b, b)) (.inl (0, 4)) 3 8 3 42 46 50) wd1 (xD 12 D) wd3 (xD 12 g_8) ws1 (xD 12 Kn) ws3 (xD 12 g_12) wi1 (xD 48 Q) wi3 (xD 48 g_16) q_35 q_36 hq_35 hq_36) ms_X6_copyRow hN.1.2.2.2.2.2 ⟨Nat.le_of_ble_eq_true rfl, Nat.le_of_ble_eq_true rfl⟩ ⟨Nat.le_of_ble_eq_true rfl, Nat.le_of_ble_eq_true rfl⟩ hH hS rfl hl.1 (Nat.le_of_ble_eq_true rfl) dX2_copyOf_139 (fun H locs hq hS => ?_)
  have hH := hq
  have hH : TH E (tbC dA dB rA (riverD (.inl (a, a)) (.inl (b, b)) (.inl (0, 4)) 32 34 36 40 44 48) rc rd tp A14F A14F A4F A4F A14F A14F rC (riverD (.inl (a, a)) (.inl (b, b)) (.inl (0, 4)) 3 8 3 42 46 50) wd1 (xD 12 D) wd3 (xD 12 g_8) ws1 (xD 12 Kn) ws3 (xD 12 g_12) wi1 (xD 48 Q) wi3 (xD 48 g_16)) H := hH
  refine lv_aload_n F.1 F.2.1 dX2_copyOf_142 rfl (lv_at hl 1 rfl) ?_
  refine tGetR (j := 12) F hK hH (tyb ha1 (all1 rfl)) rfl (all1 rfl) clX2 (by decide) wd_3_9 dX2_copyOf_143 (fun q_38 hq_38 _ => ?_)
  refine lv_aload_n F.1 F.2.1 dX2_copyOf_146 rfl (lv_at hl 0 rfl) ?_
  refine tGetR (j := 12) F hK hH (tyb ha0 (all1 rfl)) rfl (all1 rfl) clX2 (by decide) wd_3_9 dX2_copyOf_147 (fun q_39 hq_39 _ => ?_)
  refine tNv (host := RX6) (As := [.ref q_38, .ref q_39]) (rest := []) F hK hN hO (c_X6_copyRow_A14F E dA dB rA (riverD (.inl (a, a)) (.inl (b, b)) (.inl (0, 4)) 32 34 36 40 44 48) rc rd tp A14F A14F A4F A4F A14F A14F rC (riverD (.inl (a, a)) (.inl (b, b)) (.inl (0, 4)) 3 8 3 42 46 50) wd1 (xD 12 D) wd3 (xD 12 g_8) ws1 (xD 12 Kn) ws3 (xD 12 g_12) wi1 (xD 48 Q) wi3 (xD 48 g_16) q_38 q_39 hq_38 hq_39) ms_X6_copyRow hN.1.2.2.2.2.2 ⟨Nat.le_of_ble_eq_true rfl, Nat.le_of_ble_eq_true rfl⟩ ⟨Nat.le_of_ble_eq_true rfl, Nat.le_of_ble_eq_true rfl⟩ hH hS rfl hl.1 (Nat.le_of_ble_eq_true rfl) dX2_copyOf_150 (fun H locs hq hS => ?_)
  have hH := hq
  have hH : TH E (tbC dA dB rA (riverD (.inl (a, a)) (.inl (b, b)) (.inl (0, 4)) 32 34 36 40 44 48) rc rd tp A14F A14F A4F A4F A14F A14F rC (riverD (.inl (a, a)) (.inl (b, b)) (.inl (0, 4)) 3 8 3 42 46 50) wd1 (xD 12 D) wd3 (xD 12 g_8) ws1 (xD 12 Kn) ws3 (xD 12 g_12) wi1 (xD 48 Q) wi3 (xD 48 g_16)) H := hH
  refine lv_aload_n F.1 F.2.1 dX2_copyOf_153 rfl (lv_at hl 1 rfl) ?_
  refine tGetR (j := 13) F hK hH (tyb ha1 (all1 rfl)) rfl (all1 rfl) clX2 (by decide) wd_3_10 dX2_copyOf_154 (fun q_41 hq_41 _ => ?_)
  refine lv_aload_n F.1 F.2.1 dX2_copyOf_157 rfl (lv_at hl 0 rfl) ?_
  refine tGetR (j := 13) F hK hH (tyb ha0 (all1 rfl)) rfl (all1 rfl) clX2 (by decide) wd_3_10 dX2_copyOf_158 (fun q_42 hq_42 _ => ?_)
  refine tNv (host := RX6) (As := [.ref q_41, .ref q_42]) (rest := []) F hK hN hO (c_X6_copyRow_A14L E dA dB rA (riverD (.inl (a, a)) (.inl (b, b)) (.inl (0, 4)) 32 34 36 40 44 48) rc rd tp A14F A14F A4F A4F A14F A14F rC (riverD (.inl (a, a)) (.inl (b, b)) (.inl (0, 4)) 3 8 3 42 46 50) wd1 (xD 12 D) wd3 (xD 12 g_8) ws1 (xD 12 Kn) ws3 (xD 12 g_12) wi1 (xD 48 Q) wi3 (xD 48 g_16) q_41 q_42 hq_41 hq_42) ms_X6_copyRow hN.1.2.2.2.2.2 ⟨Nat.le_of_ble_eq_true rfl, Nat.le_of_ble_eq_true rfl⟩ ⟨Nat.le_of_ble_eq_true rfl, Nat.le_of_ble_eq_true rfl⟩ hH hS rfl hl.1 (Nat.le_of_ble_eq_true rfl) dX2_copyOf_161 (fun H locs hq hS => ?_)
  have hH := hq
  have hH : TH E (tbC dA dB rA (riverD (.inl (a, a)) (.inl (b, b)) (.inl (0, 4)) 32 34 36 40 44 48) rc rd tp A14F A14F A4F A4F A14F A14F rC (riverD (.inl (a, a)) (.inl (b, b)) (.inl (0, 4)) 3 8 3 42 46 50) wd1 (xD 12 D) wd3 (xD 12 g_8) ws1 (xD 12 Kn) ws3 (xD 12 g_12) wi1 (xD 48 Q) wi3 (xD 48 g_16)) H := hH
  refine lv_aload_n F.1 F.2.1 dX2_copyOf_164 rfl (lv_at hl 1 rfl) ?_
  refine tGetR (j := 15) F hK hH (tyb ha1 (all1 rfl)) rfl (all1 rfl) clX2 (by decide) wd_3_11 dX2_copyOf_165 (fun q_44 hq_44 _ => ?_)
  refine lv_aload_n F.1 F.2.1 dX2_copyOf_168 rfl (lv_at hl 0 rfl) ?_
  refine tGetR (j := 15) F hK hH (tyb ha0 (all1 rfl)) rfl (all1 rfl) clX2 (by decide) wd_3_11 dX2_copyOf_169 (fun q_45 hq_45 _ => ?_)
  refine tNv (host := RX6) (As := [.ref q_44, .ref q_45]) (rest := []) F hK hN hO (c_X6_copyRow_A4R E dA dB rA (riverD (.inl (a, a)) (.inl (b, b)) (.inl (0, 4)) 32 34 36 40 44 48) rc rd tp A14F A14F A4F A4F A14F A14F rC (riverD (.inl (a, a)) (.inl (b, b)) (.inl (0, 4)) 3 8 3 42 46 50) wd1 (xD 12 D) wd3 (xD 12 g_8) ws1 (xD 12 Kn) ws3 (xD 12 g_12) wi1 (xD 48 Q) wi3 (xD 48 g_16) q_44 q_45 hq_44 hq_45) ms_X6_copyRow hN.1.2.2.2.2.2 ⟨Nat.le_of_ble_eq_true rfl, Nat.le_of_ble_eq_true rfl⟩ ⟨Nat.le_of_ble_eq_true rfl, Nat.le_of_ble_eq_true rfl⟩ hH hS rfl hl.1 (Nat.le_of_ble_eq_true rfl) dX2_copyOf_172 (fun H locs hq hS => ?_)
  have hH := hq
  have hH : TH E (tbC dA dB rA (riverD (.inl (a, a)) (.inl (b, b)) (.inl (0, 4)) 32 34 36 40 44 48) rc rd tp A14F A14F A4F A4F A14F A14F rC (riverD (.inl (a, a)) (.inl (b, b)) (.inl (0, 4)) 3 8 3 42 46 50) wd1 (xD 12 D) wd3 (xD 12 g_8) ws1 (xD 12 Kn) ws3 (xD 12 g_12) wi1 (xD 48 Q) wi3 (xD 48 g_16)) H := hH
  refine lv_aload_n F.1 F.2.1 dX2_copyOf_175 rfl (lv_at hl 1 rfl) ?_
  refine tGetR (j := 16) F hK hH (tyb ha1 (all1 rfl)) rfl (all1 rfl) clX2 (by decide) wd_3_12 dX2_copyOf_176 (fun q_47 hq_47 _ => ?_)
  refine lv_aload_n F.1 F.2.1 dX2_copyOf_179 rfl (lv_at hl 0 rfl) ?_
  refine tGetR (j := 16) F hK hH (tyb ha0 (all1 rfl)) rfl (all1 rfl) clX2 (by decide) wd_3_12 dX2_copyOf_180 (fun q_48 hq_48 _ => ?_)
  refine tNv (host := RX6) (As := [.ref q_47, .ref q_48]) (rest := []) F hK hN hO (c_X6_copyRow_A4F E dA dB rA (riverD (.inl (a, a)) (.inl (b, b)) (.inl (0, 4)) 32 34 36 40 44 48) rc rd tp A14F A14F A4F A4F A14F A14F rC (riverD (.inl (a, a)) (.inl (b, b)) (.inl (0, 4)) 3 8 3 42 46 50) wd1 (xD 12 D) wd3 (xD 12 g_8) ws1 (xD 12 Kn) ws3 (xD 12 g_12) wi1 (xD 48 Q) wi3 (xD 48 g_16) q_47 q_48 hq_47 hq_48) ms_X6_copyRow hN.1.2.2.2.2.2 ⟨Nat.le_of_ble_eq_true rfl, Nat.le_of_ble_eq_true rfl⟩ ⟨Nat.le_of_ble_eq_true rfl, Nat.le_of_ble_eq_true rfl⟩ hH hS rfl hl.1 (Nat.le_of_ble_eq_true rfl) dX2_copyOf_183 (fun H locs hq hS => ?_)
  have hH := hq
  have hH : TH E (tbC dA dB rA (riverD (.inl (a, a)) (.inl (b, b)) (.inl (0, 4)) 32 34 36 40 44 48) rc rd tp A14F A14F A4F A4F A14F A14F rC (riverD (.inl (a, a)) (.inl (b, b)) (.inl (0, 4)) 3 8 3 42 46 50) wd1 (xD 12 D) wd3 (xD 12 g_8) ws1 (xD 12 Kn) ws3 (xD 12 g_12) wi1 (xD 48 Q) wi3 (xD 48 g_16)) H := hH
  refine lv_aload_n F.1 F.2.1 dX2_copyOf_186 rfl (lv_at hl 1 rfl) ?_
  refine tGetR (j := 17) F hK hH (tyb ha1 (all1 rfl)) rfl (all1 rfl) clX2 (by decide) wd_3_13 dX2_copyOf_187 (fun q_50 hq_50 _ => ?_)
  refine lv_aload_n F.1 F.2.1 dX2_copyOf_190 rfl (lv_at hl 0 rfl) ?_
  refine tGetR (j := 17) F hK hH (tyb ha0 (all1 rfl)) rfl (all1 rfl) clX2 (by decide) wd_3_13 dX2_copyOf_191 (fun q_51 hq_51 _ => ?_)
  refine tNv (host := RX6) (As := [.ref q_50, .ref q_51]) (rest := []) F hK hN hO (c_X6_copyRow_A4F E dA dB rA (riverD (.inl (a, a)) (.inl (b, b)) (.inl (0, 4)) 32 34 36 40 44 48) rc rd tp A14F A14F A4F A4F A14F A14F rC (riverD (.inl (a, a)) (.inl (b, b)) (.inl (0, 4)) 3 8 3 42 46 50) wd1 (xD 12 D) wd3 (xD 12 g_8) ws1 (xD 12 Kn) ws3 (xD 12 g_12) wi1 (xD 48 Q) wi3 (xD 48 g_16) q_50 q_51 hq_50 hq_51) ms_X6_copyRow hN.1.2.2.2.2.2 ⟨Nat.le_of_ble_eq_true rfl, Nat.le_of_ble_eq_true rfl⟩ ⟨Nat.le_of_ble_eq_true rfl, Nat.le_of_ble_eq_true rfl⟩ hH hS rfl hl.1 (Nat.le_of_ble_eq_true rfl) dX2_copyOf_194 (fun H locs hq hS => ?_)
  have hH := hq
  have hH : TH E (tbC dA dB rA (riverD (.inl (a, a)) (.inl (b, b)) (.inl (0, 4)) 32 34 36 40 44 48) rc rd tp A14F A14F A4F A4F A14F A14F rC (riverD (.inl (a, a)) (.inl (b, b)) (.inl (0, 4)) 3 8 3 42 46 50) wd1 (xD 12 D) wd3 (xD 12 g_8) ws1 (xD 12 Kn) ws3 (xD 12 g_12) wi1 (xD 48 Q) wi3 (xD 48 g_16)) H := hH
  refine lv_aload_n F.1 F.2.1 dX2_copyOf_197 rfl (lv_at hl 1 rfl) ?_
  refine tGetR (j := 18) F hK hH (tyb ha1 (all1 rfl)) rfl (all1 rfl) clX2 (by decide) wd_3_14 dX2_copyOf_198 (fun q_53 hq_53 _ => ?_)
  refine lv_aload_n F.1 F.2.1 dX2_copyOf_201 rfl (lv_at hl 0 rfl) ?_
  refine tGetR (j := 18) F hK hH (tyb ha0 (all1 rfl)) rfl (all1 rfl) clX2 (by decide) wd_3_14 dX2_copyOf_202 (fun q_54 hq_54 _ => ?_)
  refine tNv (host := RX6) (As := [.ref q_53, .ref q_54]) (rest := []) F hK hN hO (c_X6_copyRow_s E dA dB rA (riverD (.inl (a, a)) (.inl (b, b)) (.inl (0, 4)) 32 34 36 40 44 48) rc rd tp rC (riverD (.inl (a, a)) (.inl (b, b)) (.inl (0, 4)) 3 8 3 42 46 50) wd1 (xD 12 D) wd3 (xD 12 g_8) ws1 (xD 12 Kn) ws3 (xD 12 g_12) wi1 (xD 48 Q) wi3 (xD 48 g_16) q_53 q_54 (by have h9_ := hq_53; simp at h9_ ⊢; omega) (by have h9_ := hq_54; simp at h9_ ⊢; omega)) ms_X6_copyRow hN.1.2.2.2.2.2 ⟨Nat.le_of_ble_eq_true rfl, Nat.le_of_ble_eq_true rfl⟩ ⟨Nat.le_of_ble_eq_true rfl, Nat.le_of_ble_eq_true rfl⟩ hH hS rfl hl.1 (Nat.le_of_ble_eq_true rfl) dX2_copyOf_205 (fun H locs hq hS => ?_)
  have hH := hq
  have hH : TH E (tbC dA dB rA (riverD (.inl (a, a)) (.inl (b, b)) (.inl (0, 4)) 32 34 36 40 44 48) rc rd tp A14F A14F A4F A4F A14F A14F rC (riverD (.inl (a, a)) (.inl (b, b)) (.inl (0, 4)) 3 8 3 42 46 50) wd1 (xD 12 D) wd3 (xD 12 g_8) ws1 (xD 12 Kn) ws3 (xD 12 g_12) wi1 (xD 48 Q) wi3 (xD 48 g_16)) H := hH
  exact txV F hS dX2_copyOf_208 (⟨g_8, ⟨hg_8.1, hg_8.2⟩, g_12, ⟨hg_12.1, hg_12.2⟩, g_16, ⟨hg_16.1, hg_16.2⟩, hH⟩)
set_option maxHeartbeats 4000000 in
set_option maxRecDepth 100000 in
theorem c_X2_copyOfx_26_37 (E : Ev) (dA : TD) (dB : TD) (rB : TD) (rc : TD) (rd : TD) (tp : TD) (rD : TD) (wd2 : TD) (wd4 : TD) (ws2 : TD) (ws4 : TD) (wi2 : TD) (wi4 : TD) (Fa1 : Int × Int) (Fb1 : Int × Int) (a : Int) (b : Int) (D1 : Nat → Int32) (D : Nat → Int32) (Kn1 : Nat → Int32) (Kn : Nat → Int32) (Q1 : Nat → Int32) (Q : Nat → Int32) (a0 : Nat) (a1 : Nat) (ha0 : eT E a0 ∈ [26]) (ha1 : eT E a1 ∈ [37]) (ha : 0 ≤ a ∧ a ≤ 12) (hb : 0 ≤ b ∧ b ≤ 14) (hD1 : ivP 12 (-2) 11 D1) (hD : ivP 12 (-2) 11 D) (hKn1 : ivP 12 (-2147483648) 2147483647 Kn1) (hKn : ivP 12 (-2147483648) 2147483647 Kn) (hQ1 : ivP 48 (-2147483648) 2147483647 Q1) (hQ : ivP 48 (-2147483648) 2147483647 Q) (hFa1 : 0 ≤ Fa1.1 ∧ Fa1.2 ≤ 12) (hFb1 : 0 ≤ Fb1.1 ∧ Fb1.2 ≤ 14) : TcV E yX2_copyOf cX2_copyOf 2 ({ frames := 2, cells := 0, slots := 0, locals := 61 }) [.ref a0, .ref a1] (fun H => TH E (tbC dA dB (riverD (.inl Fa1) (.inl Fb1) (.inl (0, 4)) 31 33 35 39 43 47) rB rc rd tp A14F A14F A4F A4F A14F A14F (riverD (.inl (a, a)) (.inl (b, b)) (.inl (0, 4)) 3 8 3 41 45 49) rD (xD 12 D1) wd2 (xD 12 D) wd4 (xD 12 Kn1) ws2 (xD 12 Kn) ws4 (xD 48 Q1) wi2 (xD 48 Q) wi4) H) (fun H => ∃ D2 : Nat → Int32, (ivP 12 (-2) 11 D2 ∧ ∀ j : Nat, j < 12 → D2 j = D j) ∧ ∃ Kn2 : Nat → Int32, (ivP 12 (-2147483648) 2147483647 Kn2 ∧ ∀ j : Nat, j < 12 → Kn2 j = Kn j) ∧ ∃ Q2 : Nat → Int32, (ivP 48 (-2147483648) 2147483647 Q2 ∧ ∀ j : Nat, j < 48 → Q2 j = Q j) ∧ TH E (tbC dA dB (riverD (.inl (a, a)) (.inl (b, b)) (.inl (0, 4)) 31 33 35 39 43 47) rB rc rd tp A14F A14F A4F A4F A14F A14F (riverD (.inl (a, a)) (.inl (b, b)) (.inl (0, 4)) 3 8 3 41 45 49) rD (xD 12 D2) wd2 (xD 12 D) wd4 (xD 12 Kn2) ws2 (xD 12 Kn) ws4 (xD 48 Q2) wi2 (xD 48 Q) wi4) H) := by
  refine teV (by decide) (Nat.le_of_ble_eq_true rfl) ?_
  intro p_ ev_ s mi_ below_ meth cd_ ls F hK hN hO hH hS hl
  have hH : TH E (tbC dA dB (riverD (.inl Fa1) (.inl Fb1) (.inl (0, 4)) 31 33 35 39 43 47) rB rc rd tp A14F A14F A4F A4F A14F A14F (riverD (.inl (a, a)) (.inl (b, b)) (.inl (0, 4)) 3 8 3 41 45 49) rD (xD 12 D1) wd2 (xD 12 D) wd4 (xD 12 Kn1) ws2 (xD 12 Kn) ws4 (xD 48 Q1) wi2 (xD 48 Q) wi4) s.heap := hH
  have hl : lv_has ls 2 [(0, .ref a0), (1, .ref a1)] := hl
  refine lv_aload_n F.1 F.2.1 dX2_copyOf_0 rfl (lv_at hl 0 rfl) ?_
  refine lv_aload_n F.1 F.2.1 dX2_copyOf_1 rfl (lv_at hl 1 rfl) ?_
  refine tGetI (j := 0) F hK hH (tyb ha1 (all1 rfl)) rfl clX2 (by decide) wd_9_11 dX2_copyOf_2 (fun z_1 hz_1 => ?_)
  have ez_1 : 0 ≤ z_1.toInt ∧ z_1.toInt ≤ 12 := by omega
  refine tPutG (j := 0) (t := 26) (fd := (.inl (a, a))) F hK hH hS (List.mem_singleton.mp ha0) (by decide) rfl rfl (fdI (by omega)) (TB1 := (tbC dA dB (riverD (.inl (a, a)) (.inl Fb1) (.inl (0, 4)) 31 33 35 39 43 47) rB rc rd tp A14F A14F A4F A4F A14F A14F (riverD (.inl (a, a)) (.inl (b, b)) (.inl (0, 4)) 3 8 3 41 45 49) rD (xD 12 D1) wd2 (xD 12 D) wd4 (xD 12 Kn1) ws2 (xD 12 Kn) ws4 (xD 48 Q1) wi2 (xD 48 Q) wi4)) rfl clX2 (by decide) wd_9_11 rfl rfl rfl rfl dX2_copyOf_5 (fun H locs hH hS => ?_)
  refine lv_aload_n F.1 F.2.1 dX2_copyOf_8 rfl (lv_at hl 0 rfl) ?_
  refine lv_aload_n F.1 F.2.1 dX2_copyOf_9 rfl (lv_at hl 1 rfl) ?_
  refine tGetI (j := 4) F hK hH (tyb ha1 (all1 rfl)) rfl clX2 (by decide) wd_9_12 dX2_copyOf_10 (fun z_2 hz_2 => ?_)
  have ez_2 : 0 ≤ z_2.toInt ∧ z_2.toInt ≤ 14 := by omega
  refine tPutG (j := 4) (t := 26) (fd := (.inl (b, b))) F hK hH hS (List.mem_singleton.mp ha0) (by decide) rfl rfl (fdI (by omega)) (TB1 := (tbC dA dB (riverD (.inl (a, a)) (.inl (b, b)) (.inl (0, 4)) 31 33 35 39 43 47) rB rc rd tp A14F A14F A4F A4F A14F A14F (riverD (.inl (a, a)) (.inl (b, b)) (.inl (0, 4)) 3 8 3 41 45 49) rD (xD 12 D1) wd2 (xD 12 D) wd4 (xD 12 Kn1) ws2 (xD 12 Kn) ws4 (xD 48 Q1) wi2 (xD 48 Q) wi4)) rfl clX2 (by decide) wd_9_12 rfl rfl rfl rfl dX2_copyOf_13 (fun H locs hH hS => ?_)
  refine lv_aload_n F.1 F.2.1 dX2_copyOf_16 rfl (lv_at hl 0 rfl) ?_
  refine lv_aload_n F.1 F.2.1 dX2_copyOf_17 rfl (lv_at hl 1 rfl) ?_
  refine tGetI (j := 14) F hK hH (tyb ha1 (all1 rfl)) rfl clX2 (by decide) wd_9_13 dX2_copyOf_18 (fun z_3 hz_3 => ?_)
  refine tPut (j := 14) F hK hH hS (tyb ha0 (all1 rfl)) rfl (fdI hz_3) clX2 (by decide) wd_9_13 rfl rfl rfl rfl dX2_copyOf_21 (fun H locs hH hS => ?_)
  refine lv_aload_n F.1 F.2.1 dX2_copyOf_24 rfl (lv_at hl 0 rfl) ?_
  refine lv_aload_n F.1 F.2.1 dX2_copyOf_25 rfl (lv_at hl 1 rfl) ?_
  refine tGetI (j := 19) F hK hH (tyb ha1 (all1 rfl)) rfl clX2 (by decide) wd_3_15 dX2_copyOf_26 (fun z_4 hz_4 => ?_)
  refine tPut (j := 19) F hK hH hS (tyb ha0 (all1 rfl)) rfl (fdI hz_4) clX2 (by decide) wd_3_15 rfl rfl rfl rfl dX2_copyOf_29 (fun H locs hH hS => ?_)
  refine lv_aload_n F.1 F.2.1 dX2_copyOf_32 rfl (lv_at hl 1 rfl) ?_
  refine tGetR (j := 1) F hK hH (tyb ha1 (all1 rfl)) rfl (all1 rfl) clX2 (by decide) wd_2_23 dX2_copyOf_33 (fun q_5 hq_5 _ => ?_)
  refine lv_aload_n F.1 F.2.1 dX2_copyOf_36 rfl (lv_at hl 0 rfl) ?_
  refine tGetR (j := 1) F hK hH (tyb ha0 (all1 rfl)) rfl (all1 rfl) clX2 (by decide) wd_2_23 dX2_copyOf_37 (fun q_6 hq_6 _ => ?_)
  refine tNv (host := RX6) (As := [.ref q_5, .ref q_6]) (rest := []) F hK hN hO (c_X6_copyRow_pd_1_3 E dA dB (riverD (.inl (a, a)) (.inl (b, b)) (.inl (0, 4)) 31 33 35 39 43 47) rB rc rd tp A14F A14F A4F A4F A14F A14F (riverD (.inl (a, a)) (.inl (b, b)) (.inl (0, 4)) 3 8 3 41 45 49) rD wd2 wd4 (xD 12 Kn1) ws2 (xD 12 Kn) ws4 (xD 48 Q1) wi2 (xD 48 Q) wi4 D1 D q_5 q_6 hq_5 hq_6 hD1 hD) ms_X6_copyRow hN.1.2.2.2.2.2 ⟨Nat.le_of_ble_eq_true rfl, Nat.le_of_ble_eq_true rfl⟩ ⟨Nat.le_of_ble_eq_true rfl, Nat.le_of_ble_eq_true rfl⟩ hH hS rfl hl.1 (Nat.le_of_ble_eq_true rfl) dX2_copyOf_40 (fun H locs hq hS => ?_)
  obtain ⟨g_8, hg_8, hH⟩ := hq
  have hH : TH E (tbC dA dB (riverD (.inl (a, a)) (.inl (b, b)) (.inl (0, 4)) 31 33 35 39 43 47) rB rc rd tp A14F A14F A4F A4F A14F A14F (riverD (.inl (a, a)) (.inl (b, b)) (.inl (0, 4)) 3 8 3 41 45 49) rD (xD 12 g_8) wd2 (xD 12 D) wd4 (xD 12 Kn1) ws2 (xD 12 Kn) ws4 (xD 48 Q1) wi2 (xD 48 Q) wi4) H := hH
  refine lv_aload_n F.1 F.2.1 dX2_copyOf_43 rfl (lv_at hl 1 rfl) ?_
  refine tGetR (j := 2) F hK hH (tyb ha1 (all1 rfl)) rfl (all1 rfl) clX2 (by decide) wd_3_0 dX2_copyOf_44 (fun q_9 hq_9 _ => ?_)
  refine lv_aload_n F.1 F.2.1 dX2_copyOf_47 rfl (lv_at hl 0 rfl) ?_
  refine tGetR (j := 2) F hK hH (tyb ha0 (all1 rfl)) rfl (all1 rfl) clX2 (by decide) wd_3_0 dX2_copyOf_48 (fun q_10 hq_10 _ => ?_)
  refine tNv (host := RX6) (As := [.ref q_9, .ref q_10]) (rest := []) F hK hN hO (c_X6_copyRow_ps_1_3 E dA dB (riverD (.inl (a, a)) (.inl (b, b)) (.inl (0, 4)) 31 33 35 39 43 47) rB rc rd tp A14F A14F A4F A4F A14F A14F (riverD (.inl (a, a)) (.inl (b, b)) (.inl (0, 4)) 3 8 3 41 45 49) rD (xD 12 g_8) wd2 (xD 12 D) wd4 ws2 ws4 (xD 48 Q1) wi2 (xD 48 Q) wi4 Kn1 Kn q_9 q_10 hq_9 hq_10 hKn1 hKn) ms_X6_copyRow hN.1.2.2.2.2.2 ⟨Nat.le_of_ble_eq_true rfl, Nat.le_of_ble_eq_true rfl⟩ ⟨Nat.le_of_ble_eq_true rfl, Nat.le_of_ble_eq_true rfl⟩ hH hS rfl hl.1 (Nat.le_of_ble_eq_true rfl) dX2_copyOf_51 (fun H locs hq hS => ?_)
  obtain ⟨g_12, hg_12, hH⟩ := hq
  have hH : TH E (tbC dA dB (riverD (.inl (a, a)) (.inl (b, b)) (.inl (0, 4)) 31 33 35 39 43 47) rB rc rd tp A14F A14F A4F A4F A14F A14F (riverD (.inl (a, a)) (.inl (b, b)) (.inl (0, 4)) 3 8 3 41 45 49) rD (xD 12 g_8) wd2 (xD 12 D) wd4 (xD 12 g_12) ws2 (xD 12 Kn) ws4 (xD 48 Q1) wi2 (xD 48 Q) wi4) H := hH
  refine lv_aload_n F.1 F.2.1 dX2_copyOf_54 rfl (lv_at hl 1 rfl) ?_
  refine tGetR (j := 3) F hK hH (tyb ha1 (all1 rfl)) rfl (all1 rfl) clX2 (by decide) wd_3_1 dX2_copyOf_55 (fun q_13 hq_13 _ => ?_)
  refine lv_aload_n F.1 F.2.1 dX2_copyOf_58 rfl (lv_at hl 0 rfl) ?_
  refine tGetR (j := 3) F hK hH (tyb ha0 (all1 rfl)) rfl (all1 rfl) clX2 (by decide) wd_3_1 dX2_copyOf_59 (fun q_14 hq_14 _ => ?_)
  refine tNv (host := RX6) (As := [.ref q_13, .ref q_14]) (rest := []) F hK hN hO (c_X6_copyRow_pi_1_3 E dA dB (riverD (.inl (a, a)) (.inl (b, b)) (.inl (0, 4)) 31 33 35 39 43 47) rB rc rd tp A14F A14F A4F A4F A14F A14F (riverD (.inl (a, a)) (.inl (b, b)) (.inl (0, 4)) 3 8 3 41 45 49) rD (xD 12 g_8) wd2 (xD 12 D) wd4 (xD 12 g_12) ws2 (xD 12 Kn) ws4 wi2 wi4 Q1 Q q_13 q_14 hq_13 hq_14 hQ1 hQ) ms_X6_copyRow hN.1.2.2.2.2.2 ⟨Nat.le_of_ble_eq_true rfl, Nat.le_of_ble_eq_true rfl⟩ ⟨Nat.le_of_ble_eq_true rfl, Nat.le_of_ble_eq_true rfl⟩ hH hS rfl hl.1 (Nat.le_of_ble_eq_true rfl) dX2_copyOf_62 (fun H locs hq hS => ?_)
  obtain ⟨g_16, hg_16, hH⟩ := hq
  have hH : TH E (tbC dA dB (riverD (.inl (a, a)) (.inl (b, b)) (.inl (0, 4)) 31 33 35 39 43 47) rB rc rd tp A14F A14F A4F A4F A14F A14F (riverD (.inl (a, a)) (.inl (b, b)) (.inl (0, 4)) 3 8 3 41 45 49) rD (xD 12 g_8) wd2 (xD 12 D) wd4 (xD 12 g_12) ws2 (xD 12 Kn) ws4 (xD 48 g_16) wi2 (xD 48 Q) wi4) H := hH
  refine lv_aload_n F.1 F.2.1 dX2_copyOf_65 rfl (lv_at hl 1 rfl) ?_
  refine tGetR (j := 5) F hK hH (tyb ha1 (all1 rfl)) rfl (all1 rfl) clX2 (by decide) wd_3_2 dX2_copyOf_66 (fun q_17 hq_17 _ => ?_)
  refine lv_aload_n F.1 F.2.1 dX2_copyOf_69 rfl (lv_at hl 0 rfl) ?_
  refine tGetR (j := 5) F hK hH (tyb ha0 (all1 rfl)) rfl (all1 rfl) clX2 (by decide) wd_3_2 dX2_copyOf_70 (fun q_18 hq_18 _ => ?_)
  refine tNv (host := RX6) (As := [.ref q_17, .ref q_18]) (rest := []) F hK hN hO (c_X6_copyRow_A14R E dA dB (riverD (.inl (a, a)) (.inl (b, b)) (.inl (0, 4)) 31 33 35 39 43 47) rB rc rd tp A14F A14F A4F A4F A14F A14F (riverD (.inl (a, a)) (.inl (b, b)) (.inl (0, 4)) 3 8 3 41 45 49) rD (xD 12 g_8) wd2 (xD 12 D) wd4 (xD 12 g_12) ws2 (xD 12 Kn) ws4 (xD 48 g_16) wi2 (xD 48 Q) wi4 q_17 q_18 hq_17 hq_18) ms_X6_copyRow hN.1.2.2.2.2.2 ⟨Nat.le_of_ble_eq_true rfl, Nat.le_of_ble_eq_true rfl⟩ ⟨Nat.le_of_ble_eq_true rfl, Nat.le_of_ble_eq_true rfl⟩ hH hS rfl hl.1 (Nat.le_of_ble_eq_true rfl) dX2_copyOf_73 (fun H locs hq hS => ?_)
  have hH := hq
  have hH : TH E (tbC dA dB (riverD (.inl (a, a)) (.inl (b, b)) (.inl (0, 4)) 31 33 35 39 43 47) rB rc rd tp A14F A14F A4F A4F A14F A14F (riverD (.inl (a, a)) (.inl (b, b)) (.inl (0, 4)) 3 8 3 41 45 49) rD (xD 12 g_8) wd2 (xD 12 D) wd4 (xD 12 g_12) ws2 (xD 12 Kn) ws4 (xD 48 g_16) wi2 (xD 48 Q) wi4) H := hH
  refine lv_aload_n F.1 F.2.1 dX2_copyOf_76 rfl (lv_at hl 1 rfl) ?_
  refine tGetR (j := 6) F hK hH (tyb ha1 (all1 rfl)) rfl (all1 rfl) clX2 (by decide) wd_3_3 dX2_copyOf_77 (fun q_20 hq_20 _ => ?_)
  refine lv_aload_n F.1 F.2.1 dX2_copyOf_80 rfl (lv_at hl 0 rfl) ?_
  refine tGetR (j := 6) F hK hH (tyb ha0 (all1 rfl)) rfl (all1 rfl) clX2 (by decide) wd_3_3 dX2_copyOf_81 (fun q_21 hq_21 _ => ?_)
  refine tNv (host := RX6) (As := [.ref q_20, .ref q_21]) (rest := []) F hK hN hO (c_X6_copyRow_A14F E dA dB (riverD (.inl (a, a)) (.inl (b, b)) (.inl (0, 4)) 31 33 35 39 43 47) rB rc rd tp A14F A14F A4F A4F A14F A14F (riverD (.inl (a, a)) (.inl (b, b)) (.inl (0, 4)) 3 8 3 41 45 49) rD (xD 12 g_8) wd2 (xD 12 D) wd4 (xD 12 g_12) ws2 (xD 12 Kn) ws4 (xD 48 g_16) wi2 (xD 48 Q) wi4 q_20 q_21 hq_20 hq_21) ms_X6_copyRow hN.1.2.2.2.2.2 ⟨Nat.le_of_ble_eq_true rfl, Nat.le_of_ble_eq_true rfl⟩ ⟨Nat.le_of_ble_eq_true rfl, Nat.le_of_ble_eq_true rfl⟩ hH hS rfl hl.1 (Nat.le_of_ble_eq_true rfl) dX2_copyOf_84 (fun H locs hq hS => ?_)
  have hH := hq
  have hH : TH E (tbC dA dB (riverD (.inl (a, a)) (.inl (b, b)) (.inl (0, 4)) 31 33 35 39 43 47) rB rc rd tp A14F A14F A4F A4F A14F A14F (riverD (.inl (a, a)) (.inl (b, b)) (.inl (0, 4)) 3 8 3 41 45 49) rD (xD 12 g_8) wd2 (xD 12 D) wd4 (xD 12 g_12) ws2 (xD 12 Kn) ws4 (xD 48 g_16) wi2 (xD 48 Q) wi4) H := hH
  refine lv_aload_n F.1 F.2.1 dX2_copyOf_87 rfl (lv_at hl 1 rfl) ?_
  refine tGetR (j := 7) F hK hH (tyb ha1 (all1 rfl)) rfl (all1 rfl) clX2 (by decide) wd_3_4 dX2_copyOf_88 (fun q_23 hq_23 _ => ?_)
  refine lv_aload_n F.1 F.2.1 dX2_copyOf_91 rfl (lv_at hl 0 rfl) ?_
  refine tGetR (j := 7) F hK hH (tyb ha0 (all1 rfl)) rfl (all1 rfl) clX2 (by decide) wd_3_4 dX2_copyOf_92 (fun q_24 hq_24 _ => ?_)
  refine tNv (host := RX6) (As := [.ref q_23, .ref q_24]) (rest := []) F hK hN hO (c_X6_copyRow_f E dA dB (riverD (.inl (a, a)) (.inl (b, b)) (.inl (0, 4)) 31 33 35 39 43 47) rB rc rd tp (riverD (.inl (a, a)) (.inl (b, b)) (.inl (0, 4)) 3 8 3 41 45 49) rD (xD 12 g_8) wd2 (xD 12 D) wd4 (xD 12 g_12) ws2 (xD 12 Kn) ws4 (xD 48 g_16) wi2 (xD 48 Q) wi4 q_23 q_24 (by have h9_ := hq_23; simp at h9_ ⊢; omega) (by have h9_ := hq_24; simp at h9_ ⊢; omega)) ms_X6_copyRow hN.1.2.2.2.2.2 ⟨Nat.le_of_ble_eq_true rfl, Nat.le_of_ble_eq_true rfl⟩ ⟨Nat.le_of_ble_eq_true rfl, Nat.le_of_ble_eq_true rfl⟩ hH hS rfl hl.1 (Nat.le_of_ble_eq_true rfl) dX2_copyOf_95 (fun H locs hq hS => ?_)
  have hH := hq
  have hH : TH E (tbC dA dB (riverD (.inl (a, a)) (.inl (b, b)) (.inl (0, 4)) 31 33 35 39 43 47) rB rc rd tp A14F A14F A4F A4F A14F A14F (riverD (.inl (a, a)) (.inl (b, b)) (.inl (0, 4)) 3 8 3 41 45 49) rD (xD 12 g_8) wd2 (xD 12 D) wd4 (xD 12 g_12) ws2 (xD 12 Kn) ws4 (xD 48 g_16) wi2 (xD 48 Q) wi4) H := hH
  refine lv_aload_n F.1 F.2.1 dX2_copyOf_98 rfl (lv_at hl 1 rfl) ?_
  refine tGetR (j := 8) F hK hH (tyb ha1 (all1 rfl)) rfl (all1 rfl) clX2 (by decide) wd_3_5 dX2_copyOf_99 (fun q_26 hq_26 _ => ?_)
  refine lv_aload_n F.1 F.2.1 dX2_copyOf_102 rfl (lv_at hl 0 rfl) ?_
  refine tGetR (j := 8) F hK hH (tyb ha0 (all1 rfl)) rfl (all1 rfl) clX2 (by decide) wd_3_5 dX2_copyOf_103 (fun q_27 hq_27 _ => ?_)
  refine tNv (host := RX6) (As := [.ref q_26, .ref q_27]) (rest := []) F hK hN hO (c_X6_copyRow_A14F E dA dB (riverD (.inl (a, a)) (.inl (b, b)) (.inl (0, 4)) 31 33 35 39 43 47) rB rc rd tp A14F A14F A4F A4F A14F A14F (riverD (.inl (a, a)) (.inl (b, b)) (.inl (0, 4)) 3 8 3 41 45 49) rD (xD 12 g_8) wd2 (xD 12 D) wd4 (xD 12 g_12) ws2 (xD 12 Kn) ws4 (xD 48 g_16) wi2 (xD 48 Q) wi4 q_26 q_27 hq_26 hq_27) ms_X6_copyRow hN.1.2.2.2.2.2 ⟨Nat.le_of_ble_eq_true rfl, Nat.le_of_ble_eq_true rfl⟩ ⟨Nat.le_of_ble_eq_true rfl, Nat.le_of_ble_eq_true rfl⟩ hH hS rfl hl.1 (Nat.le_of_ble_eq_true rfl) dX2_copyOf_106 (fun H locs hq hS => ?_)
  have hH := hq
  have hH : TH E (tbC dA dB (riverD (.inl (a, a)) (.inl (b, b)) (.inl (0, 4)) 31 33 35 39 43 47) rB rc rd tp A14F A14F A4F A4F A14F A14F (riverD (.inl (a, a)) (.inl (b, b)) (.inl (0, 4)) 3 8 3 41 45 49) rD (xD 12 g_8) wd2 (xD 12 D) wd4 (xD 12 g_12) ws2 (xD 12 Kn) ws4 (xD 48 g_16) wi2 (xD 48 Q) wi4) H := hH
  refine lv_aload_n F.1 F.2.1 dX2_copyOf_109 rfl (lv_at hl 1 rfl) ?_
  refine tGetR (j := 9) F hK hH (tyb ha1 (all1 rfl)) rfl (all1 rfl) clX2 (by decide) wd_3_6 dX2_copyOf_110 (fun q_29 hq_29 _ => ?_)
  refine lv_aload_n F.1 F.2.1 dX2_copyOf_113 rfl (lv_at hl 0 rfl) ?_
  refine tGetR (j := 9) F hK hH (tyb ha0 (all1 rfl)) rfl (all1 rfl) clX2 (by decide) wd_3_6 dX2_copyOf_114 (fun q_30 hq_30 _ => ?_)
  refine tNv (host := RX6) (As := [.ref q_29, .ref q_30]) (rest := []) F hK hN hO (c_X6_copyRow_g E dA dB (riverD (.inl (a, a)) (.inl (b, b)) (.inl (0, 4)) 31 33 35 39 43 47) rB rc rd tp (riverD (.inl (a, a)) (.inl (b, b)) (.inl (0, 4)) 3 8 3 41 45 49) rD (xD 12 g_8) wd2 (xD 12 D) wd4 (xD 12 g_12) ws2 (xD 12 Kn) ws4 (xD 48 g_16) wi2 (xD 48 Q) wi4 q_29 q_30 (by have h9_ := hq_29; simp at h9_ ⊢; omega) (by have h9_ := hq_30; simp at h9_ ⊢; omega)) ms_X6_copyRow hN.1.2.2.2.2.2 ⟨Nat.le_of_ble_eq_true rfl, Nat.le_of_ble_eq_true rfl⟩ ⟨Nat.le_of_ble_eq_true rfl, Nat.le_of_ble_eq_true rfl⟩ hH hS rfl hl.1 (Nat.le_of_ble_eq_true rfl) dX2_copyOf_117 (fun H locs hq hS => ?_)
  have hH := hq
  have hH : TH E (tbC dA dB (riverD (.inl (a, a)) (.inl (b, b)) (.inl (0, 4)) 31 33 35 39 43 47) rB rc rd tp A14F A14F A4F A4F A14F A14F (riverD (.inl (a, a)) (.inl (b, b)) (.inl (0, 4)) 3 8 3 41 45 49) rD (xD 12 g_8) wd2 (xD 12 D) wd4 (xD 12 g_12) ws2 (xD 12 Kn) ws4 (xD 48 g_16) wi2 (xD 48 Q) wi4) H := hH
  refine lv_aload_n F.1 F.2.1 dX2_copyOf_120 rfl (lv_at hl 1 rfl) ?_
  refine tGetR (j := 10) F hK hH (tyb ha1 (all1 rfl)) rfl (all1 rfl) clX2 (by decide) wd_3_7 dX2_copyOf_121 (fun q_32 hq_32 _ => ?_)
  refine lv_aload_n F.1 F.2.1 dX2_copyOf_124 rfl (lv_at hl 0 rfl) ?_
  refine tGetR (j := 10) F hK hH (tyb ha0 (all1 rfl)) rfl (all1 rfl) clX2 (by decide) wd_3_7 dX2_copyOf_125 (fun q_33 hq_33 _ => ?_)
  refine tNv (host := RX6) (As := [.ref q_32, .ref q_33]) (rest := []) F hK hN hO (c_X6_copyRow_A14F E dA dB (riverD (.inl (a, a)) (.inl (b, b)) (.inl (0, 4)) 31 33 35 39 43 47) rB rc rd tp A14F A14F A4F A4F A14F A14F (riverD (.inl (a, a)) (.inl (b, b)) (.inl (0, 4)) 3 8 3 41 45 49) rD (xD 12 g_8) wd2 (xD 12 D) wd4 (xD 12 g_12) ws2 (xD 12 Kn) ws4 (xD 48 g_16) wi2 (xD 48 Q) wi4 q_32 q_33 hq_32 hq_33) ms_X6_copyRow hN.1.2.2.2.2.2 ⟨Nat.le_of_ble_eq_true rfl, Nat.le_of_ble_eq_true rfl⟩ ⟨Nat.le_of_ble_eq_true rfl, Nat.le_of_ble_eq_true rfl⟩ hH hS rfl hl.1 (Nat.le_of_ble_eq_true rfl) dX2_copyOf_128 (fun H locs hq hS => ?_)
  have hH := hq
  have hH : TH E (tbC dA dB (riverD (.inl (a, a)) (.inl (b, b)) (.inl (0, 4)) 31 33 35 39 43 47) rB rc rd tp A14F A14F A4F A4F A14F A14F (riverD (.inl (a, a)) (.inl (b, b)) (.inl (0, 4)) 3 8 3 41 45 49) rD (xD 12 g_8) wd2 (xD 12 D) wd4 (xD 12 g_12) ws2 (xD 12 Kn) ws4 (xD 48 g_16) wi2 (xD 48 Q) wi4) H := hH
  refine lv_aload_n F.1 F.2.1 dX2_copyOf_131 rfl (lv_at hl 1 rfl) ?_
  refine tGetR (j := 11) F hK hH (tyb ha1 (all1 rfl)) rfl (all1 rfl) clX2 (by decide) wd_3_8 dX2_copyOf_132 (fun q_35 hq_35 _ => ?_)
  refine lv_aload_n F.1 F.2.1 dX2_copyOf_135 rfl (lv_at hl 0 rfl) ?_
  refine tGetR (j := 11) F hK hH (tyb ha0 (all1 rfl)) rfl (all1 rfl) clX2 (by decide) wd_3_8 dX2_copyOf_136 (fun q_36 hq_36 _ => ?_)
  refine tNv (host := RX6) (As := [.ref q_35, .ref q_36]) (rest := []) F hK hN hO (c_X6_copyRow_A14B E dA dB (riverD (.inl (a, a)) (.inl (b, b)) (.inl (0, 4)) 31 33 35 39 43 47) rB rc rd tp A14F A14F A4F A4F A14F A14F (riverD (.inl (a, a)) (.inl (b, b)) (.inl (0, 4)) 3 8 3 41 45 49) rD (xD 12 g_8) wd2 (xD 12 D) wd4 (xD 12 g_12) ws2 (xD 12 Kn) ws4 (xD 48 g_16) wi2 (xD 48 Q) wi4 q_35 q_36 hq_35 hq_36) ms_X6_copyRow hN.1.2.2.2.2.2 ⟨Nat.le_of_ble_eq_true rfl, Nat.le_of_ble_eq_true rfl⟩ ⟨Nat.le_of_ble_eq_true rfl, Nat.le_of_ble_eq_true rfl⟩ hH hS rfl hl.1 (Nat.le_of_ble_eq_true rfl) dX2_copyOf_139 (fun H locs hq hS => ?_)
  have hH := hq
  have hH : TH E (tbC dA dB (riverD (.inl (a, a)) (.inl (b, b)) (.inl (0, 4)) 31 33 35 39 43 47) rB rc rd tp A14F A14F A4F A4F A14F A14F (riverD (.inl (a, a)) (.inl (b, b)) (.inl (0, 4)) 3 8 3 41 45 49) rD (xD 12 g_8) wd2 (xD 12 D) wd4 (xD 12 g_12) ws2 (xD 12 Kn) ws4 (xD 48 g_16) wi2 (xD 48 Q) wi4) H := hH
  refine lv_aload_n F.1 F.2.1 dX2_copyOf_142 rfl (lv_at hl 1 rfl) ?_
  refine tGetR (j := 12) F hK hH (tyb ha1 (all1 rfl)) rfl (all1 rfl) clX2 (by decide) wd_3_9 dX2_copyOf_143 (fun q_38 hq_38 _ => ?_)
  refine lv_aload_n F.1 F.2.1 dX2_copyOf_146 rfl (lv_at hl 0 rfl) ?_
  refine tGetR (j := 12) F hK hH (tyb ha0 (all1 rfl)) rfl (all1 rfl) clX2 (by decide) wd_3_9 dX2_copyOf_147 (fun q_39 hq_39 _ => ?_)
  refine tNv (host := RX6) (As := [.ref q_38, .ref q_39]) (rest := []) F hK hN hO (c_X6_copyRow_A14F E dA dB (riverD (.inl (a, a)) (.inl (b, b)) (.inl (0, 4)) 31 33 35 39 43 47) rB rc rd tp A14F A14F A4F A4F A14F A14F (riverD (.inl (a, a)) (.inl (b, b)) (.inl (0, 4)) 3 8 3 41 45 49) rD (xD 12 g_8) wd2 (xD 12 D) wd4 (xD 12 g_12) ws2 (xD 12 Kn) ws4 (xD 48 g_16) wi2 (xD 48 Q) wi4 q_38 q_39 hq_38 hq_39) ms_X6_copyRow hN.1.2.2.2.2.2 ⟨Nat.le_of_ble_eq_true rfl, Nat.le_of_ble_eq_true rfl⟩ ⟨Nat.le_of_ble_eq_true rfl, Nat.le_of_ble_eq_true rfl⟩ hH hS rfl hl.1 (Nat.le_of_ble_eq_true rfl) dX2_copyOf_150 (fun H locs hq hS => ?_)
  have hH := hq
  have hH : TH E (tbC dA dB (riverD (.inl (a, a)) (.inl (b, b)) (.inl (0, 4)) 31 33 35 39 43 47) rB rc rd tp A14F A14F A4F A4F A14F A14F (riverD (.inl (a, a)) (.inl (b, b)) (.inl (0, 4)) 3 8 3 41 45 49) rD (xD 12 g_8) wd2 (xD 12 D) wd4 (xD 12 g_12) ws2 (xD 12 Kn) ws4 (xD 48 g_16) wi2 (xD 48 Q) wi4) H := hH
  refine lv_aload_n F.1 F.2.1 dX2_copyOf_153 rfl (lv_at hl 1 rfl) ?_
  refine tGetR (j := 13) F hK hH (tyb ha1 (all1 rfl)) rfl (all1 rfl) clX2 (by decide) wd_3_10 dX2_copyOf_154 (fun q_41 hq_41 _ => ?_)
  refine lv_aload_n F.1 F.2.1 dX2_copyOf_157 rfl (lv_at hl 0 rfl) ?_
  refine tGetR (j := 13) F hK hH (tyb ha0 (all1 rfl)) rfl (all1 rfl) clX2 (by decide) wd_3_10 dX2_copyOf_158 (fun q_42 hq_42 _ => ?_)
  refine tNv (host := RX6) (As := [.ref q_41, .ref q_42]) (rest := []) F hK hN hO (c_X6_copyRow_A14L E dA dB (riverD (.inl (a, a)) (.inl (b, b)) (.inl (0, 4)) 31 33 35 39 43 47) rB rc rd tp A14F A14F A4F A4F A14F A14F (riverD (.inl (a, a)) (.inl (b, b)) (.inl (0, 4)) 3 8 3 41 45 49) rD (xD 12 g_8) wd2 (xD 12 D) wd4 (xD 12 g_12) ws2 (xD 12 Kn) ws4 (xD 48 g_16) wi2 (xD 48 Q) wi4 q_41 q_42 hq_41 hq_42) ms_X6_copyRow hN.1.2.2.2.2.2 ⟨Nat.le_of_ble_eq_true rfl, Nat.le_of_ble_eq_true rfl⟩ ⟨Nat.le_of_ble_eq_true rfl, Nat.le_of_ble_eq_true rfl⟩ hH hS rfl hl.1 (Nat.le_of_ble_eq_true rfl) dX2_copyOf_161 (fun H locs hq hS => ?_)
  have hH := hq
  have hH : TH E (tbC dA dB (riverD (.inl (a, a)) (.inl (b, b)) (.inl (0, 4)) 31 33 35 39 43 47) rB rc rd tp A14F A14F A4F A4F A14F A14F (riverD (.inl (a, a)) (.inl (b, b)) (.inl (0, 4)) 3 8 3 41 45 49) rD (xD 12 g_8) wd2 (xD 12 D) wd4 (xD 12 g_12) ws2 (xD 12 Kn) ws4 (xD 48 g_16) wi2 (xD 48 Q) wi4) H := hH
  refine lv_aload_n F.1 F.2.1 dX2_copyOf_164 rfl (lv_at hl 1 rfl) ?_
  refine tGetR (j := 15) F hK hH (tyb ha1 (all1 rfl)) rfl (all1 rfl) clX2 (by decide) wd_3_11 dX2_copyOf_165 (fun q_44 hq_44 _ => ?_)
  refine lv_aload_n F.1 F.2.1 dX2_copyOf_168 rfl (lv_at hl 0 rfl) ?_
  refine tGetR (j := 15) F hK hH (tyb ha0 (all1 rfl)) rfl (all1 rfl) clX2 (by decide) wd_3_11 dX2_copyOf_169 (fun q_45 hq_45 _ => ?_)
  refine tNv (host := RX6) (As := [.ref q_44, .ref q_45]) (rest := []) F hK hN hO (c_X6_copyRow_A4R E dA dB (riverD (.inl (a, a)) (.inl (b, b)) (.inl (0, 4)) 31 33 35 39 43 47) rB rc rd tp A14F A14F A4F A4F A14F A14F (riverD (.inl (a, a)) (.inl (b, b)) (.inl (0, 4)) 3 8 3 41 45 49) rD (xD 12 g_8) wd2 (xD 12 D) wd4 (xD 12 g_12) ws2 (xD 12 Kn) ws4 (xD 48 g_16) wi2 (xD 48 Q) wi4 q_44 q_45 hq_44 hq_45) ms_X6_copyRow hN.1.2.2.2.2.2 ⟨Nat.le_of_ble_eq_true rfl, Nat.le_of_ble_eq_true rfl⟩ ⟨Nat.le_of_ble_eq_true rfl, Nat.le_of_ble_eq_true rfl⟩ hH hS rfl hl.1 (Nat.le_of_ble_eq_true rfl) dX2_copyOf_172 (fun H locs hq hS => ?_)
  have hH := hq
  have hH : TH E (tbC dA dB (riverD (.inl (a, a)) (.inl (b, b)) (.inl (0, 4)) 31 33 35 39 43 47) rB rc rd tp A14F A14F A4F A4F A14F A14F (riverD (.inl (a, a)) (.inl (b, b)) (.inl (0, 4)) 3 8 3 41 45 49) rD (xD 12 g_8) wd2 (xD 12 D) wd4 (xD 12 g_12) ws2 (xD 12 Kn) ws4 (xD 48 g_16) wi2 (xD 48 Q) wi4) H := hH
  refine lv_aload_n F.1 F.2.1 dX2_copyOf_175 rfl (lv_at hl 1 rfl) ?_
  refine tGetR (j := 16) F hK hH (tyb ha1 (all1 rfl)) rfl (all1 rfl) clX2 (by decide) wd_3_12 dX2_copyOf_176 (fun q_47 hq_47 _ => ?_)
  refine lv_aload_n F.1 F.2.1 dX2_copyOf_179 rfl (lv_at hl 0 rfl) ?_
  refine tGetR (j := 16) F hK hH (tyb ha0 (all1 rfl)) rfl (all1 rfl) clX2 (by decide) wd_3_12 dX2_copyOf_180 (fun q_48 hq_48 _ => ?_)
  refine tNv (host := RX6) (As := [.ref q_47, .ref q_48]) (rest := []) F hK hN hO (c_X6_copyRow_A4F E dA dB (riverD (.inl (a, a)) (.inl (b, b)) (.inl (0, 4)) 31 33 35 39 43 47) rB rc rd tp A14F A14F A4F A4F A14F A14F (riverD (.inl (a, a)) (.inl (b, b)) (.inl (0, 4)) 3 8 3 41 45 49) rD (xD 12 g_8) wd2 (xD 12 D) wd4 (xD 12 g_12) ws2 (xD 12 Kn) ws4 (xD 48 g_16) wi2 (xD 48 Q) wi4 q_47 q_48 hq_47 hq_48) ms_X6_copyRow hN.1.2.2.2.2.2 ⟨Nat.le_of_ble_eq_true rfl, Nat.le_of_ble_eq_true rfl⟩ ⟨Nat.le_of_ble_eq_true rfl, Nat.le_of_ble_eq_true rfl⟩ hH hS rfl hl.1 (Nat.le_of_ble_eq_true rfl) dX2_copyOf_183 (fun H locs hq hS => ?_)
  have hH := hq
  have hH : TH E (tbC dA dB (riverD (.inl (a, a)) (.inl (b, b)) (.inl (0, 4)) 31 33 35 39 43 47) rB rc rd tp A14F A14F A4F A4F A14F A14F (riverD (.inl (a, a)) (.inl (b, b)) (.inl (0, 4)) 3 8 3 41 45 49) rD (xD 12 g_8) wd2 (xD 12 D) wd4 (xD 12 g_12) ws2 (xD 12 Kn) ws4 (xD 48 g_16) wi2 (xD 48 Q) wi4) H := hH
  refine lv_aload_n F.1 F.2.1 dX2_copyOf_186 rfl (lv_at hl 1 rfl) ?_
  refine tGetR (j := 17) F hK hH (tyb ha1 (all1 rfl)) rfl (all1 rfl) clX2 (by decide) wd_3_13 dX2_copyOf_187 (fun q_50 hq_50 _ => ?_)
  refine lv_aload_n F.1 F.2.1 dX2_copyOf_190 rfl (lv_at hl 0 rfl) ?_
  refine tGetR (j := 17) F hK hH (tyb ha0 (all1 rfl)) rfl (all1 rfl) clX2 (by decide) wd_3_13 dX2_copyOf_191 (fun q_51 hq_51 _ => ?_)
  refine tNv (host := RX6) (As := [.ref q_50, .ref q_51]) (rest := []) F hK hN hO (c_X6_copyRow_A4F E dA dB (riverD (.inl (a, a)) (.inl (b, b)) (.inl (0, 4)) 31 33 35 39 43 47) rB rc rd tp A14F A14F A4F A4F A14F A14F (riverD (.inl (a, a)) (.inl (b, b)) (.inl (0, 4)) 3 8 3 41 45 49) rD (xD 12 g_8) wd2 (xD 12 D) wd4 (xD 12 g_12) ws2 (xD 12 Kn) ws4 (xD 48 g_16) wi2 (xD 48 Q) wi4 q_50 q_51 hq_50 hq_51) ms_X6_copyRow hN.1.2.2.2.2.2 ⟨Nat.le_of_ble_eq_true rfl, Nat.le_of_ble_eq_true rfl⟩ ⟨Nat.le_of_ble_eq_true rfl, Nat.le_of_ble_eq_true rfl⟩ hH hS rfl hl.1 (Nat.le_of_ble_eq_true rfl) dX2_copyOf_194 (fun H locs hq hS => ?_)
  have hH := hq
  have hH : TH E (tbC dA dB (riverD (.inl (a, a)) (.inl (b, b)) (.inl (0, 4)) 31 33 35 39 43 47) rB rc rd tp A14F A14F A4F A4F A14F A14F (riverD (.inl (a, a)) (.inl (b, b)) (.inl (0, 4)) 3 8 3 41 45 49) rD (xD 12 g_8) wd2 (xD 12 D) wd4 (xD 12 g_12) ws2 (xD 12 Kn) ws4 (xD 48 g_16) wi2 (xD 48 Q) wi4) H := hH
  refine lv_aload_n F.1 F.2.1 dX2_copyOf_197 rfl (lv_at hl 1 rfl) ?_
  refine tGetR (j := 18) F hK hH (tyb ha1 (all1 rfl)) rfl (all1 rfl) clX2 (by decide) wd_3_14 dX2_copyOf_198 (fun q_53 hq_53 _ => ?_)
  refine lv_aload_n F.1 F.2.1 dX2_copyOf_201 rfl (lv_at hl 0 rfl) ?_
  refine tGetR (j := 18) F hK hH (tyb ha0 (all1 rfl)) rfl (all1 rfl) clX2 (by decide) wd_3_14 dX2_copyOf_202 (fun q_54 hq_54 _ => ?_)
  refine tNv (host := RX6) (As := [.ref q_53, .ref q_54]) (rest := []) F hK hN hO (c_X6_copyRow_s E dA dB (riverD (.inl (a, a)) (.inl (b, b)) (.inl (0, 4)) 31 33 35 39 43 47) rB rc rd tp (riverD (.inl (a, a)) (.inl (b, b)) (.inl (0, 4)) 3 8 3 41 45 49) rD (xD 12 g_8) wd2 (xD 12 D) wd4 (xD 12 g_12) ws2 (xD 12 Kn) ws4 (xD 48 g_16) wi2 (xD 48 Q) wi4 q_53 q_54 (by have h9_ := hq_53; simp at h9_ ⊢; omega) (by have h9_ := hq_54; simp at h9_ ⊢; omega)) ms_X6_copyRow hN.1.2.2.2.2.2 ⟨Nat.le_of_ble_eq_true rfl, Nat.le_of_ble_eq_true rfl⟩ ⟨Nat.le_of_ble_eq_true rfl, Nat.le_of_ble_eq_true rfl⟩ hH hS rfl hl.1 (Nat.le_of_ble_eq_true rfl) dX2_copyOf_205 (fun H locs hq hS => ?_)
  have hH := hq
  have hH : TH E (tbC dA dB (riverD (.inl (a, a)) (.inl (b, b)) (.inl (0, 4)) 31 33 35 39 43 47) rB rc rd tp A14F A14F A4F A4F A14F A14F (riverD (.inl (a, a)) (.inl (b, b)) (.inl (0, 4)) 3 8 3 41 45 49) rD (xD 12 g_8) wd2 (xD 12 D) wd4 (xD 12 g_12) ws2 (xD 12 Kn) ws4 (xD 48 g_16) wi2 (xD 48 Q) wi4) H := hH
  exact txV F hS dX2_copyOf_208 (⟨g_8, ⟨hg_8.1, hg_8.2⟩, g_12, ⟨hg_12.1, hg_12.2⟩, g_16, ⟨hg_16.1, hg_16.2⟩, hH⟩)
set_option maxHeartbeats 4000000 in
set_option maxRecDepth 100000 in
theorem c_X2_copyOfx_26_38 (E : Ev) (dA : TD) (dB : TD) (rB : TD) (rc : TD) (rd : TD) (tp : TD) (rC : TD) (wd2 : TD) (wd3 : TD) (ws2 : TD) (ws3 : TD) (wi2 : TD) (wi3 : TD) (Fa1 : Int × Int) (Fb1 : Int × Int) (a : Int) (b : Int) (D1 : Nat → Int32) (D : Nat → Int32) (Kn1 : Nat → Int32) (Kn : Nat → Int32) (Q1 : Nat → Int32) (Q : Nat → Int32) (a0 : Nat) (a1 : Nat) (ha0 : eT E a0 ∈ [26]) (ha1 : eT E a1 ∈ [38]) (ha : 0 ≤ a ∧ a ≤ 12) (hb : 0 ≤ b ∧ b ≤ 14) (hD1 : ivP 12 (-2) 11 D1) (hD : ivP 12 (-2) 11 D) (hKn1 : ivP 12 (-2147483648) 2147483647 Kn1) (hKn : ivP 12 (-2147483648) 2147483647 Kn) (hQ1 : ivP 48 (-2147483648) 2147483647 Q1) (hQ : ivP 48 (-2147483648) 2147483647 Q) (hFa1 : 0 ≤ Fa1.1 ∧ Fa1.2 ≤ 12) (hFb1 : 0 ≤ Fb1.1 ∧ Fb1.2 ≤ 14) : TcV E yX2_copyOf cX2_copyOf 2 ({ frames := 2, cells := 0, slots := 0, locals := 61 }) [.ref a0, .ref a1] (fun H => TH E (tbC dA dB (riverD (.inl Fa1) (.inl Fb1) (.inl (0, 4)) 31 33 35 39 43 47) rB rc rd tp A14F A14F A4F A4F A14F A14F rC (riverD (.inl (a, a)) (.inl (b, b)) (.inl (0, 4)) 3 8 3 42 46 50) (xD 12 D1) wd2 wd3 (xD 12 D) (xD 12 Kn1) ws2 ws3 (xD 12 Kn) (xD 48 Q1) wi2 wi3 (xD 48 Q)) H) (fun H => ∃ D2 : Nat → Int32, (ivP 12 (-2) 11 D2 ∧ ∀ j : Nat, j < 12 → D2 j = D j) ∧ ∃ Kn2 : Nat → Int32, (ivP 12 (-2147483648) 2147483647 Kn2 ∧ ∀ j : Nat, j < 12 → Kn2 j = Kn j) ∧ ∃ Q2 : Nat → Int32, (ivP 48 (-2147483648) 2147483647 Q2 ∧ ∀ j : Nat, j < 48 → Q2 j = Q j) ∧ TH E (tbC dA dB (riverD (.inl (a, a)) (.inl (b, b)) (.inl (0, 4)) 31 33 35 39 43 47) rB rc rd tp A14F A14F A4F A4F A14F A14F rC (riverD (.inl (a, a)) (.inl (b, b)) (.inl (0, 4)) 3 8 3 42 46 50) (xD 12 D2) wd2 wd3 (xD 12 D) (xD 12 Kn2) ws2 ws3 (xD 12 Kn) (xD 48 Q2) wi2 wi3 (xD 48 Q)) H) := by
  refine teV (by decide) (Nat.le_of_ble_eq_true rfl) ?_
  intro p_ ev_ s mi_ below_ meth cd_ ls F hK hN hO hH hS hl
  have hH : TH E (tbC dA dB (riverD (.inl Fa1) (.inl Fb1) (.inl (0, 4)) 31 33 35 39 43 47) rB rc rd tp A14F A14F A4F A4F A14F A14F rC (riverD (.inl (a, a)) (.inl (b, b)) (.inl (0, 4)) 3 8 3 42 46 50) (xD 12 D1) wd2 wd3 (xD 12 D) (xD 12 Kn1) ws2 ws3 (xD 12 Kn) (xD 48 Q1) wi2 wi3 (xD 48 Q)) s.heap := hH
  have hl : lv_has ls 2 [(0, .ref a0), (1, .ref a1)] := hl
  refine lv_aload_n F.1 F.2.1 dX2_copyOf_0 rfl (lv_at hl 0 rfl) ?_
  refine lv_aload_n F.1 F.2.1 dX2_copyOf_1 rfl (lv_at hl 1 rfl) ?_
  refine tGetI (j := 0) F hK hH (tyb ha1 (all1 rfl)) rfl clX2 (by decide) wd_9_11 dX2_copyOf_2 (fun z_1 hz_1 => ?_)
  have ez_1 : 0 ≤ z_1.toInt ∧ z_1.toInt ≤ 12 := by omega
  refine tPutG (j := 0) (t := 26) (fd := (.inl (a, a))) F hK hH hS (List.mem_singleton.mp ha0) (by decide) rfl rfl (fdI (by omega)) (TB1 := (tbC dA dB (riverD (.inl (a, a)) (.inl Fb1) (.inl (0, 4)) 31 33 35 39 43 47) rB rc rd tp A14F A14F A4F A4F A14F A14F rC (riverD (.inl (a, a)) (.inl (b, b)) (.inl (0, 4)) 3 8 3 42 46 50) (xD 12 D1) wd2 wd3 (xD 12 D) (xD 12 Kn1) ws2 ws3 (xD 12 Kn) (xD 48 Q1) wi2 wi3 (xD 48 Q))) rfl clX2 (by decide) wd_9_11 rfl rfl rfl rfl dX2_copyOf_5 (fun H locs hH hS => ?_)
  refine lv_aload_n F.1 F.2.1 dX2_copyOf_8 rfl (lv_at hl 0 rfl) ?_
  refine lv_aload_n F.1 F.2.1 dX2_copyOf_9 rfl (lv_at hl 1 rfl) ?_
  refine tGetI (j := 4) F hK hH (tyb ha1 (all1 rfl)) rfl clX2 (by decide) wd_9_12 dX2_copyOf_10 (fun z_2 hz_2 => ?_)
  have ez_2 : 0 ≤ z_2.toInt ∧ z_2.toInt ≤ 14 := by omega
  refine tPutG (j := 4) (t := 26) (fd := (.inl (b, b))) F hK hH hS (List.mem_singleton.mp ha0) (by decide) rfl rfl (fdI (by omega)) (TB1 := (tbC dA dB (riverD (.inl (a, a)) (.inl (b, b)) (.inl (0, 4)) 31 33 35 39 43 47) rB rc rd tp A14F A14F A4F A4F A14F A14F rC (riverD (.inl (a, a)) (.inl (b, b)) (.inl (0, 4)) 3 8 3 42 46 50) (xD 12 D1) wd2 wd3 (xD 12 D) (xD 12 Kn1) ws2 ws3 (xD 12 Kn) (xD 48 Q1) wi2 wi3 (xD 48 Q))) rfl clX2 (by decide) wd_9_12 rfl rfl rfl rfl dX2_copyOf_13 (fun H locs hH hS => ?_)
  refine lv_aload_n F.1 F.2.1 dX2_copyOf_16 rfl (lv_at hl 0 rfl) ?_
  refine lv_aload_n F.1 F.2.1 dX2_copyOf_17 rfl (lv_at hl 1 rfl) ?_
  refine tGetI (j := 14) F hK hH (tyb ha1 (all1 rfl)) rfl clX2 (by decide) wd_9_13 dX2_copyOf_18 (fun z_3 hz_3 => ?_)
  refine tPut (j := 14) F hK hH hS (tyb ha0 (all1 rfl)) rfl (fdI hz_3) clX2 (by decide) wd_9_13 rfl rfl rfl rfl dX2_copyOf_21 (fun H locs hH hS => ?_)
  refine lv_aload_n F.1 F.2.1 dX2_copyOf_24 rfl (lv_at hl 0 rfl) ?_
  refine lv_aload_n F.1 F.2.1 dX2_copyOf_25 rfl (lv_at hl 1 rfl) ?_
  refine tGetI (j := 19) F hK hH (tyb ha1 (all1 rfl)) rfl clX2 (by decide) wd_3_15 dX2_copyOf_26 (fun z_4 hz_4 => ?_)
  refine tPut (j := 19) F hK hH hS (tyb ha0 (all1 rfl)) rfl (fdI hz_4) clX2 (by decide) wd_3_15 rfl rfl rfl rfl dX2_copyOf_29 (fun H locs hH hS => ?_)
  refine lv_aload_n F.1 F.2.1 dX2_copyOf_32 rfl (lv_at hl 1 rfl) ?_
  refine tGetR (j := 1) F hK hH (tyb ha1 (all1 rfl)) rfl (all1 rfl) clX2 (by decide) wd_2_23 dX2_copyOf_33 (fun q_5 hq_5 _ => ?_)
  refine lv_aload_n F.1 F.2.1 dX2_copyOf_36 rfl (lv_at hl 0 rfl) ?_
  refine tGetR (j := 1) F hK hH (tyb ha0 (all1 rfl)) rfl (all1 rfl) clX2 (by decide) wd_2_23 dX2_copyOf_37 (fun q_6 hq_6 _ => ?_)
  refine tNv (host := RX6) (As := [.ref q_5, .ref q_6]) (rest := []) F hK hN hO (c_X6_copyRow_pd_1_4 E dA dB (riverD (.inl (a, a)) (.inl (b, b)) (.inl (0, 4)) 31 33 35 39 43 47) rB rc rd tp A14F A14F A4F A4F A14F A14F rC (riverD (.inl (a, a)) (.inl (b, b)) (.inl (0, 4)) 3 8 3 42 46 50) wd2 wd3 (xD 12 Kn1) ws2 ws3 (xD 12 Kn) (xD 48 Q1) wi2 wi3 (xD 48 Q) D1 D q_5 q_6 hq_5 hq_6 hD1 hD) ms_X6_copyRow hN.1.2.2.2.2.2 ⟨Nat.le_of_ble_eq_true rfl, Nat.le_of_ble_eq_true rfl⟩ ⟨Nat.le_of_ble_eq_true rfl, Nat.le_of_ble_eq_true rfl⟩ hH hS rfl hl.1 (Nat.le_of_ble_eq_true rfl) dX2_copyOf_40 (fun H locs hq hS => ?_)
  obtain ⟨g_8, hg_8, hH⟩ := hq
  have hH : TH E (tbC dA dB (riverD (.inl (a, a)) (.inl (b, b)) (.inl (0, 4)) 31 33 35 39 43 47) rB rc rd tp A14F A14F A4F A4F A14F A14F rC (riverD (.inl (a, a)) (.inl (b, b)) (.inl (0, 4)) 3 8 3 42 46 50) (xD 12 g_8) wd2 wd3 (xD 12 D) (xD 12 Kn1) ws2 ws3 (xD 12 Kn) (xD 48 Q1) wi2 wi3 (xD 48 Q)) H := hH
  refine lv_aload_n F.1 F.2.1 dX2_copyOf_43 rfl (lv_at hl 1 rfl) ?_
  refine tGetR (j := 2) F hK hH (tyb ha1 (all1 rfl)) rfl (all1 rfl) clX2 (by decide) wd_3_0 dX2_copyOf_44 (fun q_9 hq_9 _ => ?_)
  refine lv_aload_n F.1 F.2.1 dX2_copyOf_47 rfl (lv_at hl 0 rfl) ?_
  refine tGetR (j := 2) F hK hH (tyb ha0 (all1 rfl)) rfl (all1 rfl) clX2 (by decide) wd_3_0 dX2_copyOf_48 (fun q_10 hq_10 _ => ?_)
  refine tNv (host := RX6) (As := [.ref q_9, .ref q_10]) (rest := []) F hK hN hO (c_X6_copyRow_ps_1_4 E dA dB (riverD (.inl (a, a)) (.inl (b, b)) (.inl (0, 4)) 31 33 35 39 43 47) rB rc rd tp A14F A14F A4F A4F A14F A14F rC (riverD (.inl (a, a)) (.inl (b, b)) (.inl (0, 4)) 3 8 3 42 46 50) (xD 12 g_8) wd2 wd3 (xD 12 D) ws2 ws3 (xD 48 Q1) wi2 wi3 (xD 48 Q) Kn1 Kn q_9 q_10 hq_9 hq_10 hKn1 hKn) ms_X6_copyRow hN.1.2.2.2.2.2 ⟨Nat.le_of_ble_eq_true rfl, Nat.le_of_ble_eq_true rfl⟩ ⟨Nat.le_of_ble_eq_true rfl, Nat.le_of_ble_eq_true rfl⟩ hH hS rfl hl.1 (Nat.le_of_ble_eq_true rfl) dX2_copyOf_51 (fun H locs hq hS => ?_)
  obtain ⟨g_12, hg_12, hH⟩ := hq
  have hH : TH E (tbC dA dB (riverD (.inl (a, a)) (.inl (b, b)) (.inl (0, 4)) 31 33 35 39 43 47) rB rc rd tp A14F A14F A4F A4F A14F A14F rC (riverD (.inl (a, a)) (.inl (b, b)) (.inl (0, 4)) 3 8 3 42 46 50) (xD 12 g_8) wd2 wd3 (xD 12 D) (xD 12 g_12) ws2 ws3 (xD 12 Kn) (xD 48 Q1) wi2 wi3 (xD 48 Q)) H := hH
  refine lv_aload_n F.1 F.2.1 dX2_copyOf_54 rfl (lv_at hl 1 rfl) ?_
  refine tGetR (j := 3) F hK hH (tyb ha1 (all1 rfl)) rfl (all1 rfl) clX2 (by decide) wd_3_1 dX2_copyOf_55 (fun q_13 hq_13 _ => ?_)
  refine lv_aload_n F.1 F.2.1 dX2_copyOf_58 rfl (lv_at hl 0 rfl) ?_
  refine tGetR (j := 3) F hK hH (tyb ha0 (all1 rfl)) rfl (all1 rfl) clX2 (by decide) wd_3_1 dX2_copyOf_59 (fun q_14 hq_14 _ => ?_)
  refine tNv (host := RX6) (As := [.ref q_13, .ref q_14]) (rest := []) F hK hN hO (c_X6_copyRow_pi_1_4 E dA dB (riverD (.inl (a, a)) (.inl (b, b)) (.inl (0, 4)) 31 33 35 39 43 47) rB rc rd tp A14F A14F A4F A4F A14F A14F rC (riverD (.inl (a, a)) (.inl (b, b)) (.inl (0, 4)) 3 8 3 42 46 50) (xD 12 g_8) wd2 wd3 (xD 12 D) (xD 12 g_12) ws2 ws3 (xD 12 Kn) wi2 wi3 Q1 Q q_13 q_14 hq_13 hq_14 hQ1 hQ) ms_X6_copyRow hN.1.2.2.2.2.2 ⟨Nat.le_of_ble_eq_true rfl, Nat.le_of_ble_eq_true rfl⟩ ⟨Nat.le_of_ble_eq_true rfl, Nat.le_of_ble_eq_true rfl⟩ hH hS rfl hl.1 (Nat.le_of_ble_eq_true rfl) dX2_copyOf_62 (fun H locs hq hS => ?_)
  obtain ⟨g_16, hg_16, hH⟩ := hq
  have hH : TH E (tbC dA dB (riverD (.inl (a, a)) (.inl (b, b)) (.inl (0, 4)) 31 33 35 39 43 47) rB rc rd tp A14F A14F A4F A4F A14F A14F rC (riverD (.inl (a, a)) (.inl (b, b)) (.inl (0, 4)) 3 8 3 42 46 50) (xD 12 g_8) wd2 wd3 (xD 12 D) (xD 12 g_12) ws2 ws3 (xD 12 Kn) (xD 48 g_16) wi2 wi3 (xD 48 Q)) H := hH
  refine lv_aload_n F.1 F.2.1 dX2_copyOf_65 rfl (lv_at hl 1 rfl) ?_
  refine tGetR (j := 5) F hK hH (tyb ha1 (all1 rfl)) rfl (all1 rfl) clX2 (by decide) wd_3_2 dX2_copyOf_66 (fun q_17 hq_17 _ => ?_)
  refine lv_aload_n F.1 F.2.1 dX2_copyOf_69 rfl (lv_at hl 0 rfl) ?_
  refine tGetR (j := 5) F hK hH (tyb ha0 (all1 rfl)) rfl (all1 rfl) clX2 (by decide) wd_3_2 dX2_copyOf_70 (fun q_18 hq_18 _ => ?_)
  refine tNv (host := RX6) (As := [.ref q_17, .ref q_18]) (rest := []) F hK hN hO (c_X6_copyRow_A14R E dA dB (riverD (.inl (a, a)) (.inl (b, b)) (.inl (0, 4)) 31 33 35 39 43 47) rB rc rd tp A14F A14F A4F A4F A14F A14F rC (riverD (.inl (a, a)) (.inl (b, b)) (.inl (0, 4)) 3 8 3 42 46 50) (xD 12 g_8) wd2 wd3 (xD 12 D) (xD 12 g_12) ws2 ws3 (xD 12 Kn) (xD 48 g_16) wi2 wi3 (xD 48 Q) q_17 q_18 hq_17 hq_18) ms_X6_copyRow hN.1.2.2.2.2.2 ⟨Nat.le_of_ble_eq_true rfl, Nat.le_of_ble_eq_true rfl⟩ ⟨Nat.le_of_ble_eq_true rfl, Nat.le_of_ble_eq_true rfl⟩ hH hS rfl hl.1 (Nat.le_of_ble_eq_true rfl) dX2_copyOf_73 (fun H locs hq hS => ?_)
  have hH := hq
  have hH : TH E (tbC dA dB (riverD (.inl (a, a)) (.inl (b, b)) (.inl (0, 4)) 31 33 35 39 43 47) rB rc rd tp A14F A14F A4F A4F A14F A14F rC (riverD (.inl (a, a)) (.inl (b, b)) (.inl (0, 4)) 3 8 3 42 46 50) (xD 12 g_8) wd2 wd3 (xD 12 D) (xD 12 g_12) ws2 ws3 (xD 12 Kn) (xD 48 g_16) wi2 wi3 (xD 48 Q)) H := hH
  refine lv_aload_n F.1 F.2.1 dX2_copyOf_76 rfl (lv_at hl 1 rfl) ?_
  refine tGetR (j := 6) F hK hH (tyb ha1 (all1 rfl)) rfl (all1 rfl) clX2 (by decide) wd_3_3 dX2_copyOf_77 (fun q_20 hq_20 _ => ?_)
  refine lv_aload_n F.1 F.2.1 dX2_copyOf_80 rfl (lv_at hl 0 rfl) ?_
  refine tGetR (j := 6) F hK hH (tyb ha0 (all1 rfl)) rfl (all1 rfl) clX2 (by decide) wd_3_3 dX2_copyOf_81 (fun q_21 hq_21 _ => ?_)
  refine tNv (host := RX6) (As := [.ref q_20, .ref q_21]) (rest := []) F hK hN hO (c_X6_copyRow_A14F E dA dB (riverD (.inl (a, a)) (.inl (b, b)) (.inl (0, 4)) 31 33 35 39 43 47) rB rc rd tp A14F A14F A4F A4F A14F A14F rC (riverD (.inl (a, a)) (.inl (b, b)) (.inl (0, 4)) 3 8 3 42 46 50) (xD 12 g_8) wd2 wd3 (xD 12 D) (xD 12 g_12) ws2 ws3 (xD 12 Kn) (xD 48 g_16) wi2 wi3 (xD 48 Q) q_20 q_21 hq_20 hq_21) ms_X6_copyRow hN.1.2.2.2.2.2 ⟨Nat.le_of_ble_eq_true rfl, Nat.le_of_ble_eq_true rfl⟩ ⟨Nat.le_of_ble_eq_true rfl, Nat.le_of_ble_eq_true rfl⟩ hH hS rfl hl.1 (Nat.le_of_ble_eq_true rfl) dX2_copyOf_84 (fun H locs hq hS => ?_)
  have hH := hq
  have hH : TH E (tbC dA dB (riverD (.inl (a, a)) (.inl (b, b)) (.inl (0, 4)) 31 33 35 39 43 47) rB rc rd tp A14F A14F A4F A4F A14F A14F rC (riverD (.inl (a, a)) (.inl (b, b)) (.inl (0, 4)) 3 8 3 42 46 50) (xD 12 g_8) wd2 wd3 (xD 12 D) (xD 12 g_12) ws2 ws3 (xD 12 Kn) (xD 48 g_16) wi2 wi3 (xD 48 Q)) H := hH
  refine lv_aload_n F.1 F.2.1 dX2_copyOf_87 rfl (lv_at hl 1 rfl) ?_
  refine tGetR (j := 7) F hK hH (tyb ha1 (all1 rfl)) rfl (all1 rfl) clX2 (by decide) wd_3_4 dX2_copyOf_88 (fun q_23 hq_23 _ => ?_)
  refine lv_aload_n F.1 F.2.1 dX2_copyOf_91 rfl (lv_at hl 0 rfl) ?_
  refine tGetR (j := 7) F hK hH (tyb ha0 (all1 rfl)) rfl (all1 rfl) clX2 (by decide) wd_3_4 dX2_copyOf_92 (fun q_24 hq_24 _ => ?_)
  refine tNv (host := RX6) (As := [.ref q_23, .ref q_24]) (rest := []) F hK hN hO (c_X6_copyRow_f E dA dB (riverD (.inl (a, a)) (.inl (b, b)) (.inl (0, 4)) 31 33 35 39 43 47) rB rc rd tp rC (riverD (.inl (a, a)) (.inl (b, b)) (.inl (0, 4)) 3 8 3 42 46 50) (xD 12 g_8) wd2 wd3 (xD 12 D) (xD 12 g_12) ws2 ws3 (xD 12 Kn) (xD 48 g_16) wi2 wi3 (xD 48 Q) q_23 q_24 (by have h9_ := hq_23; simp at h9_ ⊢; omega) (by have h9_ := hq_24; simp at h9_ ⊢; omega)) ms_X6_copyRow hN.1.2.2.2.2.2 ⟨Nat.le_of_ble_eq_true rfl, Nat.le_of_ble_eq_true rfl⟩ ⟨Nat.le_of_ble_eq_true rfl, Nat.le_of_ble_eq_true rfl⟩ hH hS rfl hl.1 (Nat.le_of_ble_eq_true rfl) dX2_copyOf_95 (fun H locs hq hS => ?_)
  have hH := hq
  have hH : TH E (tbC dA dB (riverD (.inl (a, a)) (.inl (b, b)) (.inl (0, 4)) 31 33 35 39 43 47) rB rc rd tp A14F A14F A4F A4F A14F A14F rC (riverD (.inl (a, a)) (.inl (b, b)) (.inl (0, 4)) 3 8 3 42 46 50) (xD 12 g_8) wd2 wd3 (xD 12 D) (xD 12 g_12) ws2 ws3 (xD 12 Kn) (xD 48 g_16) wi2 wi3 (xD 48 Q)) H := hH
  refine lv_aload_n F.1 F.2.1 dX2_copyOf_98 rfl (lv_at hl 1 rfl) ?_
  refine tGetR (j := 8) F hK hH (tyb ha1 (all1 rfl)) rfl (all1 rfl) clX2 (by decide) wd_3_5 dX2_copyOf_99 (fun q_26 hq_26 _ => ?_)
  refine lv_aload_n F.1 F.2.1 dX2_copyOf_102 rfl (lv_at hl 0 rfl) ?_
  refine tGetR (j := 8) F hK hH (tyb ha0 (all1 rfl)) rfl (all1 rfl) clX2 (by decide) wd_3_5 dX2_copyOf_103 (fun q_27 hq_27 _ => ?_)
  refine tNv (host := RX6) (As := [.ref q_26, .ref q_27]) (rest := []) F hK hN hO (c_X6_copyRow_A14F E dA dB (riverD (.inl (a, a)) (.inl (b, b)) (.inl (0, 4)) 31 33 35 39 43 47) rB rc rd tp A14F A14F A4F A4F A14F A14F rC (riverD (.inl (a, a)) (.inl (b, b)) (.inl (0, 4)) 3 8 3 42 46 50) (xD 12 g_8) wd2 wd3 (xD 12 D) (xD 12 g_12) ws2 ws3 (xD 12 Kn) (xD 48 g_16) wi2 wi3 (xD 48 Q) q_26 q_27 hq_26 hq_27) ms_X6_copyRow hN.1.2.2.2.2.2 ⟨Nat.le_of_ble_eq_true rfl, Nat.le_of_ble_eq_true rfl⟩ ⟨Nat.le_of_ble_eq_true rfl, Nat.le_of_ble_eq_true rfl⟩ hH hS rfl hl.1 (Nat.le_of_ble_eq_true rfl) dX2_copyOf_106 (fun H locs hq hS => ?_)
  have hH := hq
  have hH : TH E (tbC dA dB (riverD (.inl (a, a)) (.inl (b, b)) (.inl (0, 4)) 31 33 35 39 43 47) rB rc rd tp A14F A14F A4F A4F A14F A14F rC (riverD (.inl (a, a)) (.inl (b, b)) (.inl (0, 4)) 3 8 3 42 46 50) (xD 12 g_8) wd2 wd3 (xD 12 D) (xD 12 g_12) ws2 ws3 (xD 12 Kn) (xD 48 g_16) wi2 wi3 (xD 48 Q)) H := hH
  refine lv_aload_n F.1 F.2.1 dX2_copyOf_109 rfl (lv_at hl 1 rfl) ?_
  refine tGetR (j := 9) F hK hH (tyb ha1 (all1 rfl)) rfl (all1 rfl) clX2 (by decide) wd_3_6 dX2_copyOf_110 (fun q_29 hq_29 _ => ?_)
  refine lv_aload_n F.1 F.2.1 dX2_copyOf_113 rfl (lv_at hl 0 rfl) ?_
  refine tGetR (j := 9) F hK hH (tyb ha0 (all1 rfl)) rfl (all1 rfl) clX2 (by decide) wd_3_6 dX2_copyOf_114 (fun q_30 hq_30 _ => ?_)
  refine tNv (host := RX6) (As := [.ref q_29, .ref q_30]) (rest := []) F hK hN hO (c_X6_copyRow_g E dA dB (riverD (.inl (a, a)) (.inl (b, b)) (.inl (0, 4)) 31 33 35 39 43 47) rB rc rd tp rC (riverD (.inl (a, a)) (.inl (b, b)) (.inl (0, 4)) 3 8 3 42 46 50) (xD 12 g_8) wd2 wd3 (xD 12 D) (xD 12 g_12) ws2 ws3 (xD 12 Kn) (xD 48 g_16) wi2 wi3 (xD 48 Q) q_29 q_30 (by have h9_ := hq_29; simp at h9_ ⊢; omega) (by have h9_ := hq_30; simp at h9_ ⊢; omega)) ms_X6_copyRow hN.1.2.2.2.2.2 ⟨Nat.le_of_ble_eq_true rfl, Nat.le_of_ble_eq_true rfl⟩ ⟨Nat.le_of_ble_eq_true rfl, Nat.le_of_ble_eq_true rfl⟩ hH hS rfl hl.1 (Nat.le_of_ble_eq_true rfl) dX2_copyOf_117 (fun H locs hq hS => ?_)
  have hH := hq
  have hH : TH E (tbC dA dB (riverD (.inl (a, a)) (.inl (b, b)) (.inl (0, 4)) 31 33 35 39 43 47) rB rc rd tp A14F A14F A4F A4F A14F A14F rC (riverD (.inl (a, a)) (.inl (b, b)) (.inl (0, 4)) 3 8 3 42 46 50) (xD 12 g_8) wd2 wd3 (xD 12 D) (xD 12 g_12) ws2 ws3 (xD 12 Kn) (xD 48 g_16) wi2 wi3 (xD 48 Q)) H := hH
  refine lv_aload_n F.1 F.2.1 dX2_copyOf_120 rfl (lv_at hl 1 rfl) ?_
  refine tGetR (j := 10) F hK hH (tyb ha1 (all1 rfl)) rfl (all1 rfl) clX2 (by decide) wd_3_7 dX2_copyOf_121 (fun q_32 hq_32 _ => ?_)
  refine lv_aload_n F.1 F.2.1 dX2_copyOf_124 rfl (lv_at hl 0 rfl) ?_
  refine tGetR (j := 10) F hK hH (tyb ha0 (all1 rfl)) rfl (all1 rfl) clX2 (by decide) wd_3_7 dX2_copyOf_125 (fun q_33 hq_33 _ => ?_)
  refine tNv (host := RX6) (As := [.ref q_32, .ref q_33]) (rest := []) F hK hN hO (c_X6_copyRow_A14F E dA dB (riverD (.inl (a, a)) (.inl (b, b)) (.inl (0, 4)) 31 33 35 39 43 47) rB rc rd tp A14F A14F A4F A4F A14F A14F rC (riverD (.inl (a, a)) (.inl (b, b)) (.inl (0, 4)) 3 8 3 42 46 50) (xD 12 g_8) wd2 wd3 (xD 12 D) (xD 12 g_12) ws2 ws3 (xD 12 Kn) (xD 48 g_16) wi2 wi3 (xD 48 Q) q_32 q_33 hq_32 hq_33) ms_X6_copyRow hN.1.2.2.2.2.2 ⟨Nat.le_of_ble_eq_true rfl, Nat.le_of_ble_eq_true rfl⟩ ⟨Nat.le_of_ble_eq_true rfl, Nat.le_of_ble_eq_true rfl⟩ hH hS rfl hl.1 (Nat.le_of_ble_eq_true rfl) dX2_copyOf_128 (fun H locs hq hS => ?_)
  have hH := hq
  have hH : TH E (tbC dA dB (riverD (.inl (a, a)) (.inl (b, b)) (.inl (0, 4)) 31 33 35 39 43 47) rB rc rd tp A14F A14F A4F A4F A14F A14F rC (riverD (.inl (a, a)) (.inl (b, b)) (.inl (0, 4)) 3 8 3 42 46 50) (xD 12 g_8) wd2 wd3 (xD 12 D) (xD 12 g_12) ws2 ws3 (xD 12 Kn) (xD 48 g_16) wi2 wi3 (xD 48 Q)) H := hH
  refine lv_aload_n F.1 F.2.1 dX2_copyOf_131 rfl (lv_at hl 1 rfl) ?_
  refine tGetR (j := 11) F hK hH (tyb ha1 (all1 rfl)) rfl (all1 rfl) clX2 (by decide) wd_3_8 dX2_copyOf_132 (fun q_35 hq_35 _ => ?_)
  refine lv_aload_n F.1 F.2.1 dX2_copyOf_135 rfl (lv_at hl 0 rfl) ?_
  refine tGetR (j := 11) F hK hH (tyb ha0 (all1 rfl)) rfl (all1 rfl) clX2 (by decide) wd_3_8 dX2_copyOf_136 (fun q_36 hq_36 _ => ?_)
  refine tNv (host := RX6) (As := [.ref q_35, .ref q_36]) (rest := []) F hK hN hO (c_X6_copyRow_A14B E dA dB (riverD (.inl (a, a)) (.inl (b, b)) (.inl (0, 4)) 31 33 35 39 43 47) rB rc rd tp A14F A14F A4F A4F A14F A14F rC (riverD (.inl (a, a)) (.inl (b, b)) (.inl (0, 4)) 3 8 3 42 46 50) (xD 12 g_8) wd2 wd3 (xD 12 D) (xD 12 g_12) ws2 ws3 (xD 12 Kn) (xD 48 g_16) wi2 wi3 (xD 48 Q) q_35 q_36 hq_35 hq_36) ms_X6_copyRow hN.1.2.2.2.2.2 ⟨Nat.le_of_ble_eq_true rfl, Nat.le_of_ble_eq_true rfl⟩ ⟨Nat.le_of_ble_eq_true rfl, Nat.le_of_ble_eq_true rfl⟩ hH hS rfl hl.1 (Nat.le_of_ble_eq_true rfl) dX2_copyOf_139 (fun H locs hq hS => ?_)
  have hH := hq
  have hH : TH E (tbC dA dB (riverD (.inl (a, a)) (.inl (b, b)) (.inl (0, 4)) 31 33 35 39 43 47) rB rc rd tp A14F A14F A4F A4F A14F A14F rC (riverD (.inl (a, a)) (.inl (b, b)) (.inl (0, 4)) 3 8 3 42 46 50) (xD 12 g_8) wd2 wd3 (xD 12 D) (xD 12 g_12) ws2 ws3 (xD 12 Kn) (xD 48 g_16) wi2 wi3 (xD 48 Q)) H := hH
  refine lv_aload_n F.1 F.2.1 dX2_copyOf_142 rfl (lv_at hl 1 rfl) ?_
  refine tGetR (j := 12) F hK hH (tyb ha1 (all1 rfl)) rfl (all1 rfl) clX2 (by decide) wd_3_9 dX2_copyOf_143 (fun q_38 hq_38 _ => ?_)
  refine lv_aload_n F.1 F.2.1 dX2_copyOf_146 rfl (lv_at hl 0 rfl) ?_
  refine tGetR (j := 12) F hK hH (tyb ha0 (all1 rfl)) rfl (all1 rfl) clX2 (by decide) wd_3_9 dX2_copyOf_147 (fun q_39 hq_39 _ => ?_)
  refine tNv (host := RX6) (As := [.ref q_38, .ref q_39]) (rest := []) F hK hN hO (c_X6_copyRow_A14F E dA dB (riverD (.inl (a, a)) (.inl (b, b)) (.inl (0, 4)) 31 33 35 39 43 47) rB rc rd tp A14F A14F A4F A4F A14F A14F rC (riverD (.inl (a, a)) (.inl (b, b)) (.inl (0, 4)) 3 8 3 42 46 50) (xD 12 g_8) wd2 wd3 (xD 12 D) (xD 12 g_12) ws2 ws3 (xD 12 Kn) (xD 48 g_16) wi2 wi3 (xD 48 Q) q_38 q_39 hq_38 hq_39) ms_X6_copyRow hN.1.2.2.2.2.2 ⟨Nat.le_of_ble_eq_true rfl, Nat.le_of_ble_eq_true rfl⟩ ⟨Nat.le_of_ble_eq_true rfl, Nat.le_of_ble_eq_true rfl⟩ hH hS rfl hl.1 (Nat.le_of_ble_eq_true rfl) dX2_copyOf_150 (fun H locs hq hS => ?_)
  have hH := hq
  have hH : TH E (tbC dA dB (riverD (.inl (a, a)) (.inl (b, b)) (.inl (0, 4)) 31 33 35 39 43 47) rB rc rd tp A14F A14F A4F A4F A14F A14F rC (riverD (.inl (a, a)) (.inl (b, b)) (.inl (0, 4)) 3 8 3 42 46 50) (xD 12 g_8) wd2 wd3 (xD 12 D) (xD 12 g_12) ws2 ws3 (xD 12 Kn) (xD 48 g_16) wi2 wi3 (xD 48 Q)) H := hH
  refine lv_aload_n F.1 F.2.1 dX2_copyOf_153 rfl (lv_at hl 1 rfl) ?_
  refine tGetR (j := 13) F hK hH (tyb ha1 (all1 rfl)) rfl (all1 rfl) clX2 (by decide) wd_3_10 dX2_copyOf_154 (fun q_41 hq_41 _ => ?_)
  refine lv_aload_n F.1 F.2.1 dX2_copyOf_157 rfl (lv_at hl 0 rfl) ?_
  refine tGetR (j := 13) F hK hH (tyb ha0 (all1 rfl)) rfl (all1 rfl) clX2 (by decide) wd_3_10 dX2_copyOf_158 (fun q_42 hq_42 _ => ?_)
  refine tNv (host := RX6) (As := [.ref q_41, .ref q_42]) (rest := []) F hK hN hO (c_X6_copyRow_A14L E dA dB (riverD (.inl (a, a)) (.inl (b, b)) (.inl (0, 4)) 31 33 35 39 43 47) rB rc rd tp A14F A14F A4F A4F A14F A14F rC (riverD (.inl (a, a)) (.inl (b, b)) (.inl (0, 4)) 3 8 3 42 46 50) (xD 12 g_8) wd2 wd3 (xD 12 D) (xD 12 g_12) ws2 ws3 (xD 12 Kn) (xD 48 g_16) wi2 wi3 (xD 48 Q) q_41 q_42 hq_41 hq_42) ms_X6_copyRow hN.1.2.2.2.2.2 ⟨Nat.le_of_ble_eq_true rfl, Nat.le_of_ble_eq_true rfl⟩ ⟨Nat.le_of_ble_eq_true rfl, Nat.le_of_ble_eq_true rfl⟩ hH hS rfl hl.1 (Nat.le_of_ble_eq_true rfl) dX2_copyOf_161 (fun H locs hq hS => ?_)
  have hH := hq
  have hH : TH E (tbC dA dB (riverD (.inl (a, a)) (.inl (b, b)) (.inl (0, 4)) 31 33 35 39 43 47) rB rc rd tp A14F A14F A4F A4F A14F A14F rC (riverD (.inl (a, a)) (.inl (b, b)) (.inl (0, 4)) 3 8 3 42 46 50) (xD 12 g_8) wd2 wd3 (xD 12 D) (xD 12 g_12) ws2 ws3 (xD 12 Kn) (xD 48 g_16) wi2 wi3 (xD 48 Q)) H := hH
  refine lv_aload_n F.1 F.2.1 dX2_copyOf_164 rfl (lv_at hl 1 rfl) ?_
  refine tGetR (j := 15) F hK hH (tyb ha1 (all1 rfl)) rfl (all1 rfl) clX2 (by decide) wd_3_11 dX2_copyOf_165 (fun q_44 hq_44 _ => ?_)
  refine lv_aload_n F.1 F.2.1 dX2_copyOf_168 rfl (lv_at hl 0 rfl) ?_
  refine tGetR (j := 15) F hK hH (tyb ha0 (all1 rfl)) rfl (all1 rfl) clX2 (by decide) wd_3_11 dX2_copyOf_169 (fun q_45 hq_45 _ => ?_)
  refine tNv (host := RX6) (As := [.ref q_44, .ref q_45]) (rest := []) F hK hN hO (c_X6_copyRow_A4R E dA dB (riverD (.inl (a, a)) (.inl (b, b)) (.inl (0, 4)) 31 33 35 39 43 47) rB rc rd tp A14F A14F A4F A4F A14F A14F rC (riverD (.inl (a, a)) (.inl (b, b)) (.inl (0, 4)) 3 8 3 42 46 50) (xD 12 g_8) wd2 wd3 (xD 12 D) (xD 12 g_12) ws2 ws3 (xD 12 Kn) (xD 48 g_16) wi2 wi3 (xD 48 Q) q_44 q_45 hq_44 hq_45) ms_X6_copyRow hN.1.2.2.2.2.2 ⟨Nat.le_of_ble_eq_true rfl, Nat.le_of_ble_eq_true rfl⟩ ⟨Nat.le_of_ble_eq_true rfl, Nat.le_of_ble_eq_true rfl⟩ hH hS rfl hl.1 (Nat.le_of_ble_eq_true rfl) dX2_copyOf_172 (fun H locs hq hS => ?_)
  have hH := hq
  have hH : TH E (tbC dA dB (riverD (.inl (a, a)) (.inl (b, b)) (.inl (0, 4)) 31 33 35 39 43 47) rB rc rd tp A14F A14F A4F A4F A14F A14F rC (riverD (.inl (a, a)) (.inl (b, b)) (.inl (0, 4)) 3 8 3 42 46 50) (xD 12 g_8) wd2 wd3 (xD 12 D) (xD 12 g_12) ws2 ws3 (xD 12 Kn) (xD 48 g_16) wi2 wi3 (xD 48 Q)) H := hH
  refine lv_aload_n F.1 F.2.1 dX2_copyOf_175 rfl (lv_at hl 1 rfl) ?_
  refine tGetR (j := 16) F hK hH (tyb ha1 (all1 rfl)) rfl (all1 rfl) clX2 (by decide) wd_3_12 dX2_copyOf_176 (fun q_47 hq_47 _ => ?_)
  refine lv_aload_n F.1 F.2.1 dX2_copyOf_179 rfl (lv_at hl 0 rfl) ?_
  refine tGetR (j := 16) F hK hH (tyb ha0 (all1 rfl)) rfl (all1 rfl) clX2 (by decide) wd_3_12 dX2_copyOf_180 (fun q_48 hq_48 _ => ?_)
  refine tNv (host := RX6) (As := [.ref q_47, .ref q_48]) (rest := []) F hK hN hO (c_X6_copyRow_A4F E dA dB (riverD (.inl (a, a)) (.inl (b, b)) (.inl (0, 4)) 31 33 35 39 43 47) rB rc rd tp A14F A14F A4F A4F A14F A14F rC (riverD (.inl (a, a)) (.inl (b, b)) (.inl (0, 4)) 3 8 3 42 46 50) (xD 12 g_8) wd2 wd3 (xD 12 D) (xD 12 g_12) ws2 ws3 (xD 12 Kn) (xD 48 g_16) wi2 wi3 (xD 48 Q) q_47 q_48 hq_47 hq_48) ms_X6_copyRow hN.1.2.2.2.2.2 ⟨Nat.le_of_ble_eq_true rfl, Nat.le_of_ble_eq_true rfl⟩ ⟨Nat.le_of_ble_eq_true rfl, Nat.le_of_ble_eq_true rfl⟩ hH hS rfl hl.1 (Nat.le_of_ble_eq_true rfl) dX2_copyOf_183 (fun H locs hq hS => ?_)
  have hH := hq
  have hH : TH E (tbC dA dB (riverD (.inl (a, a)) (.inl (b, b)) (.inl (0, 4)) 31 33 35 39 43 47) rB rc rd tp A14F A14F A4F A4F A14F A14F rC (riverD (.inl (a, a)) (.inl (b, b)) (.inl (0, 4)) 3 8 3 42 46 50) (xD 12 g_8) wd2 wd3 (xD 12 D) (xD 12 g_12) ws2 ws3 (xD 12 Kn) (xD 48 g_16) wi2 wi3 (xD 48 Q)) H := hH
  refine lv_aload_n F.1 F.2.1 dX2_copyOf_186 rfl (lv_at hl 1 rfl) ?_
  refine tGetR (j := 17) F hK hH (tyb ha1 (all1 rfl)) rfl (all1 rfl) clX2 (by decide) wd_3_13 dX2_copyOf_187 (fun q_50 hq_50 _ => ?_)
  refine lv_aload_n F.1 F.2.1 dX2_copyOf_190 rfl (lv_at hl 0 rfl) ?_
  refine tGetR (j := 17) F hK hH (tyb ha0 (all1 rfl)) rfl (all1 rfl) clX2 (by decide) wd_3_13 dX2_copyOf_191 (fun q_51 hq_51 _ => ?_)
  refine tNv (host := RX6) (As := [.ref q_50, .ref q_51]) (rest := []) F hK hN hO (c_X6_copyRow_A4F E dA dB (riverD (.inl (a, a)) (.inl (b, b)) (.inl (0, 4)) 31 33 35 39 43 47) rB rc rd tp A14F A14F A4F A4F A14F A14F rC (riverD (.inl (a, a)) (.inl (b, b)) (.inl (0, 4)) 3 8 3 42 46 50) (xD 12 g_8) wd2 wd3 (xD 12 D) (xD 12 g_12) ws2 ws3 (xD 12 Kn) (xD 48 g_16) wi2 wi3 (xD 48 Q) q_50 q_51 hq_50 hq_51) ms_X6_copyRow hN.1.2.2.2.2.2 ⟨Nat.le_of_ble_eq_true rfl, Nat.le_of_ble_eq_true rfl⟩ ⟨Nat.le_of_ble_eq_true rfl, Nat.le_of_ble_eq_true rfl⟩ hH hS rfl hl.1 (Nat.le_of_ble_eq_true rfl) dX2_copyOf_194 (fun H locs hq hS => ?_)
  have hH := hq
  have hH : TH E (tbC dA dB (riverD (.inl (a, a)) (.inl (b, b)) (.inl (0, 4)) 31 33 35 39 43 47) rB rc rd tp A14F A14F A4F A4F A14F A14F rC (riverD (.inl (a, a)) (.inl (b, b)) (.inl (0, 4)) 3 8 3 42 46 50) (xD 12 g_8) wd2 wd3 (xD 12 D) (xD 12 g_12) ws2 ws3 (xD 12 Kn) (xD 48 g_16) wi2 wi3 (xD 48 Q)) H := hH
  refine lv_aload_n F.1 F.2.1 dX2_copyOf_197 rfl (lv_at hl 1 rfl) ?_
  refine tGetR (j := 18) F hK hH (tyb ha1 (all1 rfl)) rfl (all1 rfl) clX2 (by decide) wd_3_14 dX2_copyOf_198 (fun q_53 hq_53 _ => ?_)
  refine lv_aload_n F.1 F.2.1 dX2_copyOf_201 rfl (lv_at hl 0 rfl) ?_
  refine tGetR (j := 18) F hK hH (tyb ha0 (all1 rfl)) rfl (all1 rfl) clX2 (by decide) wd_3_14 dX2_copyOf_202 (fun q_54 hq_54 _ => ?_)
  refine tNv (host := RX6) (As := [.ref q_53, .ref q_54]) (rest := []) F hK hN hO (c_X6_copyRow_s E dA dB (riverD (.inl (a, a)) (.inl (b, b)) (.inl (0, 4)) 31 33 35 39 43 47) rB rc rd tp rC (riverD (.inl (a, a)) (.inl (b, b)) (.inl (0, 4)) 3 8 3 42 46 50) (xD 12 g_8) wd2 wd3 (xD 12 D) (xD 12 g_12) ws2 ws3 (xD 12 Kn) (xD 48 g_16) wi2 wi3 (xD 48 Q) q_53 q_54 (by have h9_ := hq_53; simp at h9_ ⊢; omega) (by have h9_ := hq_54; simp at h9_ ⊢; omega)) ms_X6_copyRow hN.1.2.2.2.2.2 ⟨Nat.le_of_ble_eq_true rfl, Nat.le_of_ble_eq_true rfl⟩ ⟨Nat.le_of_ble_eq_true rfl, Nat.le_of_ble_eq_true rfl⟩ hH hS rfl hl.1 (Nat.le_of_ble_eq_true rfl) dX2_copyOf_205 (fun H locs hq hS => ?_)
  have hH := hq
  have hH : TH E (tbC dA dB (riverD (.inl (a, a)) (.inl (b, b)) (.inl (0, 4)) 31 33 35 39 43 47) rB rc rd tp A14F A14F A4F A4F A14F A14F rC (riverD (.inl (a, a)) (.inl (b, b)) (.inl (0, 4)) 3 8 3 42 46 50) (xD 12 g_8) wd2 wd3 (xD 12 D) (xD 12 g_12) ws2 ws3 (xD 12 Kn) (xD 48 g_16) wi2 wi3 (xD 48 Q)) H := hH
  exact txV F hS dX2_copyOf_208 (⟨g_8, ⟨hg_8.1, hg_8.2⟩, g_12, ⟨hg_12.1, hg_12.2⟩, g_16, ⟨hg_16.1, hg_16.2⟩, hH⟩)
set_option maxHeartbeats 4000000 in
set_option maxRecDepth 100000 in
theorem c_X2_copyOfx_27_37 (E : Ev) (dA : TD) (dB : TD) (rA : TD) (rc : TD) (rd : TD) (tp : TD) (rD : TD) (wd1 : TD) (wd4 : TD) (ws1 : TD) (ws4 : TD) (wi1 : TD) (wi4 : TD) (Fa2 : Int × Int) (Fb2 : Int × Int) (a : Int) (b : Int) (D1 : Nat → Int32) (D : Nat → Int32) (Kn1 : Nat → Int32) (Kn : Nat → Int32) (Q1 : Nat → Int32) (Q : Nat → Int32) (a0 : Nat) (a1 : Nat) (ha0 : eT E a0 ∈ [27]) (ha1 : eT E a1 ∈ [37]) (ha : 0 ≤ a ∧ a ≤ 12) (hb : 0 ≤ b ∧ b ≤ 14) (hD1 : ivP 12 (-2) 11 D1) (hD : ivP 12 (-2) 11 D) (hKn1 : ivP 12 (-2147483648) 2147483647 Kn1) (hKn : ivP 12 (-2147483648) 2147483647 Kn) (hQ1 : ivP 48 (-2147483648) 2147483647 Q1) (hQ : ivP 48 (-2147483648) 2147483647 Q) (hFa2 : 0 ≤ Fa2.1 ∧ Fa2.2 ≤ 12) (hFb2 : 0 ≤ Fb2.1 ∧ Fb2.2 ≤ 14) : TcV E yX2_copyOf cX2_copyOf 2 ({ frames := 2, cells := 0, slots := 0, locals := 61 }) [.ref a0, .ref a1] (fun H => TH E (tbC dA dB rA (riverD (.inl Fa2) (.inl Fb2) (.inl (0, 4)) 32 34 36 40 44 48) rc rd tp A14F A14F A4F A4F A14F A14F (riverD (.inl (a, a)) (.inl (b, b)) (.inl (0, 4)) 3 8 3 41 45 49) rD wd1 (xD 12 D1) (xD 12 D) wd4 ws1 (xD 12 Kn1) (xD 12 Kn) ws4 wi1 (xD 48 Q1) (xD 48 Q) wi4) H) (fun H => ∃ D2 : Nat → Int32, (ivP 12 (-2) 11 D2 ∧ ∀ j : Nat, j < 12 → D2 j = D j) ∧ ∃ Kn2 : Nat → Int32, (ivP 12 (-2147483648) 2147483647 Kn2 ∧ ∀ j : Nat, j < 12 → Kn2 j = Kn j) ∧ ∃ Q2 : Nat → Int32, (ivP 48 (-2147483648) 2147483647 Q2 ∧ ∀ j : Nat, j < 48 → Q2 j = Q j) ∧ TH E (tbC dA dB rA (riverD (.inl (a, a)) (.inl (b, b)) (.inl (0, 4)) 32 34 36 40 44 48) rc rd tp A14F A14F A4F A4F A14F A14F (riverD (.inl (a, a)) (.inl (b, b)) (.inl (0, 4)) 3 8 3 41 45 49) rD wd1 (xD 12 D2) (xD 12 D) wd4 ws1 (xD 12 Kn2) (xD 12 Kn) ws4 wi1 (xD 48 Q2) (xD 48 Q) wi4) H) := by
  refine teV (by decide) (Nat.le_of_ble_eq_true rfl) ?_
  intro p_ ev_ s mi_ below_ meth cd_ ls F hK hN hO hH hS hl
  have hH : TH E (tbC dA dB rA (riverD (.inl Fa2) (.inl Fb2) (.inl (0, 4)) 32 34 36 40 44 48) rc rd tp A14F A14F A4F A4F A14F A14F (riverD (.inl (a, a)) (.inl (b, b)) (.inl (0, 4)) 3 8 3 41 45 49) rD wd1 (xD 12 D1) (xD 12 D) wd4 ws1 (xD 12 Kn1) (xD 12 Kn) ws4 wi1 (xD 48 Q1) (xD 48 Q) wi4) s.heap := hH
  have hl : lv_has ls 2 [(0, .ref a0), (1, .ref a1)] := hl
  refine lv_aload_n F.1 F.2.1 dX2_copyOf_0 rfl (lv_at hl 0 rfl) ?_
  refine lv_aload_n F.1 F.2.1 dX2_copyOf_1 rfl (lv_at hl 1 rfl) ?_
  refine tGetI (j := 0) F hK hH (tyb ha1 (all1 rfl)) rfl clX2 (by decide) wd_9_11 dX2_copyOf_2 (fun z_1 hz_1 => ?_)
  have ez_1 : 0 ≤ z_1.toInt ∧ z_1.toInt ≤ 12 := by omega
  refine tPutG (j := 0) (t := 27) (fd := (.inl (a, a))) F hK hH hS (List.mem_singleton.mp ha0) (by decide) rfl rfl (fdI (by omega)) (TB1 := (tbC dA dB rA (riverD (.inl (a, a)) (.inl Fb2) (.inl (0, 4)) 32 34 36 40 44 48) rc rd tp A14F A14F A4F A4F A14F A14F (riverD (.inl (a, a)) (.inl (b, b)) (.inl (0, 4)) 3 8 3 41 45 49) rD wd1 (xD 12 D1) (xD 12 D) wd4 ws1 (xD 12 Kn1) (xD 12 Kn) ws4 wi1 (xD 48 Q1) (xD 48 Q) wi4)) rfl clX2 (by decide) wd_9_11 rfl rfl rfl rfl dX2_copyOf_5 (fun H locs hH hS => ?_)
  refine lv_aload_n F.1 F.2.1 dX2_copyOf_8 rfl (lv_at hl 0 rfl) ?_
  refine lv_aload_n F.1 F.2.1 dX2_copyOf_9 rfl (lv_at hl 1 rfl) ?_
  refine tGetI (j := 4) F hK hH (tyb ha1 (all1 rfl)) rfl clX2 (by decide) wd_9_12 dX2_copyOf_10 (fun z_2 hz_2 => ?_)
  have ez_2 : 0 ≤ z_2.toInt ∧ z_2.toInt ≤ 14 := by omega
  refine tPutG (j := 4) (t := 27) (fd := (.inl (b, b))) F hK hH hS (List.mem_singleton.mp ha0) (by decide) rfl rfl (fdI (by omega)) (TB1 := (tbC dA dB rA (riverD (.inl (a, a)) (.inl (b, b)) (.inl (0, 4)) 32 34 36 40 44 48) rc rd tp A14F A14F A4F A4F A14F A14F (riverD (.inl (a, a)) (.inl (b, b)) (.inl (0, 4)) 3 8 3 41 45 49) rD wd1 (xD 12 D1) (xD 12 D) wd4 ws1 (xD 12 Kn1) (xD 12 Kn) ws4 wi1 (xD 48 Q1) (xD 48 Q) wi4)) rfl clX2 (by decide) wd_9_12 rfl rfl rfl rfl dX2_copyOf_13 (fun H locs hH hS => ?_)
  refine lv_aload_n F.1 F.2.1 dX2_copyOf_16 rfl (lv_at hl 0 rfl) ?_
  refine lv_aload_n F.1 F.2.1 dX2_copyOf_17 rfl (lv_at hl 1 rfl) ?_
  refine tGetI (j := 14) F hK hH (tyb ha1 (all1 rfl)) rfl clX2 (by decide) wd_9_13 dX2_copyOf_18 (fun z_3 hz_3 => ?_)
  refine tPut (j := 14) F hK hH hS (tyb ha0 (all1 rfl)) rfl (fdI hz_3) clX2 (by decide) wd_9_13 rfl rfl rfl rfl dX2_copyOf_21 (fun H locs hH hS => ?_)
  refine lv_aload_n F.1 F.2.1 dX2_copyOf_24 rfl (lv_at hl 0 rfl) ?_
  refine lv_aload_n F.1 F.2.1 dX2_copyOf_25 rfl (lv_at hl 1 rfl) ?_
  refine tGetI (j := 19) F hK hH (tyb ha1 (all1 rfl)) rfl clX2 (by decide) wd_3_15 dX2_copyOf_26 (fun z_4 hz_4 => ?_)
  refine tPut (j := 19) F hK hH hS (tyb ha0 (all1 rfl)) rfl (fdI hz_4) clX2 (by decide) wd_3_15 rfl rfl rfl rfl dX2_copyOf_29 (fun H locs hH hS => ?_)
  refine lv_aload_n F.1 F.2.1 dX2_copyOf_32 rfl (lv_at hl 1 rfl) ?_
  refine tGetR (j := 1) F hK hH (tyb ha1 (all1 rfl)) rfl (all1 rfl) clX2 (by decide) wd_2_23 dX2_copyOf_33 (fun q_5 hq_5 _ => ?_)
  refine lv_aload_n F.1 F.2.1 dX2_copyOf_36 rfl (lv_at hl 0 rfl) ?_
  refine tGetR (j := 1) F hK hH (tyb ha0 (all1 rfl)) rfl (all1 rfl) clX2 (by decide) wd_2_23 dX2_copyOf_37 (fun q_6 hq_6 _ => ?_)
  refine tNv (host := RX6) (As := [.ref q_5, .ref q_6]) (rest := []) F hK hN hO (c_X6_copyRow_pd_2_3 E dA dB rA (riverD (.inl (a, a)) (.inl (b, b)) (.inl (0, 4)) 32 34 36 40 44 48) rc rd tp A14F A14F A4F A4F A14F A14F (riverD (.inl (a, a)) (.inl (b, b)) (.inl (0, 4)) 3 8 3 41 45 49) rD wd1 wd4 ws1 (xD 12 Kn1) (xD 12 Kn) ws4 wi1 (xD 48 Q1) (xD 48 Q) wi4 D1 D q_5 q_6 hq_5 hq_6 hD1 hD) ms_X6_copyRow hN.1.2.2.2.2.2 ⟨Nat.le_of_ble_eq_true rfl, Nat.le_of_ble_eq_true rfl⟩ ⟨Nat.le_of_ble_eq_true rfl, Nat.le_of_ble_eq_true rfl⟩ hH hS rfl hl.1 (Nat.le_of_ble_eq_true rfl) dX2_copyOf_40 (fun H locs hq hS => ?_)
  obtain ⟨g_8, hg_8, hH⟩ := hq
  have hH : TH E (tbC dA dB rA (riverD (.inl (a, a)) (.inl (b, b)) (.inl (0, 4)) 32 34 36 40 44 48) rc rd tp A14F A14F A4F A4F A14F A14F (riverD (.inl (a, a)) (.inl (b, b)) (.inl (0, 4)) 3 8 3 41 45 49) rD wd1 (xD 12 g_8) (xD 12 D) wd4 ws1 (xD 12 Kn1) (xD 12 Kn) ws4 wi1 (xD 48 Q1) (xD 48 Q) wi4) H := hH
  refine lv_aload_n F.1 F.2.1 dX2_copyOf_43 rfl (lv_at hl 1 rfl) ?_
  refine tGetR (j := 2) F hK hH (tyb ha1 (all1 rfl)) rfl (all1 rfl) clX2 (by decide) wd_3_0 dX2_copyOf_44 (fun q_9 hq_9 _ => ?_)
  refine lv_aload_n F.1 F.2.1 dX2_copyOf_47 rfl (lv_at hl 0 rfl) ?_
  refine tGetR (j := 2) F hK hH (tyb ha0 (all1 rfl)) rfl (all1 rfl) clX2 (by decide) wd_3_0 dX2_copyOf_48 (fun q_10 hq_10 _ => ?_)
  refine tNv (host := RX6) (As := [.ref q_9, .ref q_10]) (rest := []) F hK hN hO (c_X6_copyRow_ps_2_3 E dA dB rA (riverD (.inl (a, a)) (.inl (b, b)) (.inl (0, 4)) 32 34 36 40 44 48) rc rd tp A14F A14F A4F A4F A14F A14F (riverD (.inl (a, a)) (.inl (b, b)) (.inl (0, 4)) 3 8 3 41 45 49) rD wd1 (xD 12 g_8) (xD 12 D) wd4 ws1 ws4 wi1 (xD 48 Q1) (xD 48 Q) wi4 Kn1 Kn q_9 q_10 hq_9 hq_10 hKn1 hKn) ms_X6_copyRow hN.1.2.2.2.2.2 ⟨Nat.le_of_ble_eq_true rfl, Nat.le_of_ble_eq_true rfl⟩ ⟨Nat.le_of_ble_eq_true rfl, Nat.le_of_ble_eq_true rfl⟩ hH hS rfl hl.1 (Nat.le_of_ble_eq_true rfl) dX2_copyOf_51 (fun H locs hq hS => ?_)
  obtain ⟨g_12, hg_12, hH⟩ := hq
  have hH : TH E (tbC dA dB rA (riverD (.inl (a, a)) (.inl (b, b)) (.inl (0, 4)) 32 34 36 40 44 48) rc rd tp A14F A14F A4F A4F A14F A14F (riverD (.inl (a, a)) (.inl (b, b)) (.inl (0, 4)) 3 8 3 41 45 49) rD wd1 (xD 12 g_8) (xD 12 D) wd4 ws1 (xD 12 g_12) (xD 12 Kn) ws4 wi1 (xD 48 Q1) (xD 48 Q) wi4) H := hH
  refine lv_aload_n F.1 F.2.1 dX2_copyOf_54 rfl (lv_at hl 1 rfl) ?_
  refine tGetR (j := 3) F hK hH (tyb ha1 (all1 rfl)) rfl (all1 rfl) clX2 (by decide) wd_3_1 dX2_copyOf_55 (fun q_13 hq_13 _ => ?_)
  refine lv_aload_n F.1 F.2.1 dX2_copyOf_58 rfl (lv_at hl 0 rfl) ?_
  refine tGetR (j := 3) F hK hH (tyb ha0 (all1 rfl)) rfl (all1 rfl) clX2 (by decide) wd_3_1 dX2_copyOf_59 (fun q_14 hq_14 _ => ?_)
  refine tNv (host := RX6) (As := [.ref q_13, .ref q_14]) (rest := []) F hK hN hO (c_X6_copyRow_pi_2_3 E dA dB rA (riverD (.inl (a, a)) (.inl (b, b)) (.inl (0, 4)) 32 34 36 40 44 48) rc rd tp A14F A14F A4F A4F A14F A14F (riverD (.inl (a, a)) (.inl (b, b)) (.inl (0, 4)) 3 8 3 41 45 49) rD wd1 (xD 12 g_8) (xD 12 D) wd4 ws1 (xD 12 g_12) (xD 12 Kn) ws4 wi1 wi4 Q1 Q q_13 q_14 hq_13 hq_14 hQ1 hQ) ms_X6_copyRow hN.1.2.2.2.2.2 ⟨Nat.le_of_ble_eq_true rfl, Nat.le_of_ble_eq_true rfl⟩ ⟨Nat.le_of_ble_eq_true rfl, Nat.le_of_ble_eq_true rfl⟩ hH hS rfl hl.1 (Nat.le_of_ble_eq_true rfl) dX2_copyOf_62 (fun H locs hq hS => ?_)
  obtain ⟨g_16, hg_16, hH⟩ := hq
  have hH : TH E (tbC dA dB rA (riverD (.inl (a, a)) (.inl (b, b)) (.inl (0, 4)) 32 34 36 40 44 48) rc rd tp A14F A14F A4F A4F A14F A14F (riverD (.inl (a, a)) (.inl (b, b)) (.inl (0, 4)) 3 8 3 41 45 49) rD wd1 (xD 12 g_8) (xD 12 D) wd4 ws1 (xD 12 g_12) (xD 12 Kn) ws4 wi1 (xD 48 g_16) (xD 48 Q) wi4) H := hH
  refine lv_aload_n F.1 F.2.1 dX2_copyOf_65 rfl (lv_at hl 1 rfl) ?_
  refine tGetR (j := 5) F hK hH (tyb ha1 (all1 rfl)) rfl (all1 rfl) clX2 (by decide) wd_3_2 dX2_copyOf_66 (fun q_17 hq_17 _ => ?_)
  refine lv_aload_n F.1 F.2.1 dX2_copyOf_69 rfl (lv_at hl 0 rfl) ?_
  refine tGetR (j := 5) F hK hH (tyb ha0 (all1 rfl)) rfl (all1 rfl) clX2 (by decide) wd_3_2 dX2_copyOf_70 (fun q_18 hq_18 _ => ?_)
  refine tNv (host := RX6) (As := [.ref q_17, .ref q_18]) (rest := []) F hK hN hO (c_X6_copyRow_A14R E dA dB rA (riverD (.inl (a, a)) (.inl (b, b)) (.inl (0, 4)) 32 34 36 40 44 48) rc rd tp A14F A14F A4F A4F A14F A14F (riverD (.inl (a, a)) (.inl (b, b)) (.inl (0, 4)) 3 8 3 41 45 49) rD wd1 (xD 12 g_8) (xD 12 D) wd4 ws1 (xD 12 g_12) (xD 12 Kn) ws4 wi1 (xD 48 g_16) (xD 48 Q) wi4 q_17 q_18 hq_17 hq_18) ms_X6_copyRow hN.1.2.2.2.2.2 ⟨Nat.le_of_ble_eq_true rfl, Nat.le_of_ble_eq_true rfl⟩ ⟨Nat.le_of_ble_eq_true rfl, Nat.le_of_ble_eq_true rfl⟩ hH hS rfl hl.1 (Nat.le_of_ble_eq_true rfl) dX2_copyOf_73 (fun H locs hq hS => ?_)
  have hH := hq
  have hH : TH E (tbC dA dB rA (riverD (.inl (a, a)) (.inl (b, b)) (.inl (0, 4)) 32 34 36 40 44 48) rc rd tp A14F A14F A4F A4F A14F A14F (riverD (.inl (a, a)) (.inl (b, b)) (.inl (0, 4)) 3 8 3 41 45 49) rD wd1 (xD 12 g_8) (xD 12 D) wd4 ws1 (xD 12 g_12) (xD 12 Kn) ws4 wi1 (xD 48 g_16) (xD 48 Q) wi4) H := hH
  refine lv_aload_n F.1 F.2.1 dX2_copyOf_76 rfl (lv_at hl 1 rfl) ?_
  refine tGetR (j := 6) F hK hH (tyb ha1 (all1 rfl)) rfl (all1 rfl) clX2 (by decide) wd_3_3 dX2_copyOf_77 (fun q_20 hq_20 _ => ?_)
  refine lv_aload_n F.1 F.2.1 dX2_copyOf_80 rfl (lv_at hl 0 rfl) ?_
  refine tGetR (j := 6) F hK hH (tyb ha0 (all1 rfl)) rfl (all1 rfl) clX2 (by decide) wd_3_3 dX2_copyOf_81 (fun q_21 hq_21 _ => ?_)
  refine tNv (host := RX6) (As := [.ref q_20, .ref q_21]) (rest := []) F hK hN hO (c_X6_copyRow_A14F E dA dB rA (riverD (.inl (a, a)) (.inl (b, b)) (.inl (0, 4)) 32 34 36 40 44 48) rc rd tp A14F A14F A4F A4F A14F A14F (riverD (.inl (a, a)) (.inl (b, b)) (.inl (0, 4)) 3 8 3 41 45 49) rD wd1 (xD 12 g_8) (xD 12 D) wd4 ws1 (xD 12 g_12) (xD 12 Kn) ws4 wi1 (xD 48 g_16) (xD 48 Q) wi4 q_20 q_21 hq_20 hq_21) ms_X6_copyRow hN.1.2.2.2.2.2 ⟨Nat.le_of_ble_eq_true rfl, Nat.le_of_ble_eq_true rfl⟩ ⟨Nat.le_of_ble_eq_true rfl, Nat.le_of_ble_eq_true rfl⟩ hH hS rfl hl.1 (Nat.le_of_ble_eq_true rfl) dX2_copyOf_84 (fun H locs hq hS => ?_)
  have hH := hq
  have hH : TH E (tbC dA dB rA (riverD (.inl (a, a)) (.inl (b, b)) (.inl (0, 4)) 32 34 36 40 44 48) rc rd tp A14F A14F A4F A4F A14F A14F (riverD (.inl (a, a)) (.inl (b, b)) (.inl (0, 4)) 3 8 3 41 45 49) rD wd1 (xD 12 g_8) (xD 12 D) wd4 ws1 (xD 12 g_12) (xD 12 Kn) ws4 wi1 (xD 48 g_16) (xD 48 Q) wi4) H := hH
  refine lv_aload_n F.1 F.2.1 dX2_copyOf_87 rfl (lv_at hl 1 rfl) ?_
  refine tGetR (j := 7) F hK hH (tyb ha1 (all1 rfl)) rfl (all1 rfl) clX2 (by decide) wd_3_4 dX2_copyOf_88 (fun q_23 hq_23 _ => ?_)
  refine lv_aload_n F.1 F.2.1 dX2_copyOf_91 rfl (lv_at hl 0 rfl) ?_
  refine tGetR (j := 7) F hK hH (tyb ha0 (all1 rfl)) rfl (all1 rfl) clX2 (by decide) wd_3_4 dX2_copyOf_92 (fun q_24 hq_24 _ => ?_)
  refine tNv (host := RX6) (As := [.ref q_23, .ref q_24]) (rest := []) F hK hN hO (c_X6_copyRow_f E dA dB rA (riverD (.inl (a, a)) (.inl (b, b)) (.inl (0, 4)) 32 34 36 40 44 48) rc rd tp (riverD (.inl (a, a)) (.inl (b, b)) (.inl (0, 4)) 3 8 3 41 45 49) rD wd1 (xD 12 g_8) (xD 12 D) wd4 ws1 (xD 12 g_12) (xD 12 Kn) ws4 wi1 (xD 48 g_16) (xD 48 Q) wi4 q_23 q_24 (by have h9_ := hq_23; simp at h9_ ⊢; omega) (by have h9_ := hq_24; simp at h9_ ⊢; omega)) ms_X6_copyRow hN.1.2.2.2.2.2 ⟨Nat.le_of_ble_eq_true rfl, Nat.le_of_ble_eq_true rfl⟩ ⟨Nat.le_of_ble_eq_true rfl, Nat.le_of_ble_eq_true rfl⟩ hH hS rfl hl.1 (Nat.le_of_ble_eq_true rfl) dX2_copyOf_95 (fun H locs hq hS => ?_)
  have hH := hq
  have hH : TH E (tbC dA dB rA (riverD (.inl (a, a)) (.inl (b, b)) (.inl (0, 4)) 32 34 36 40 44 48) rc rd tp A14F A14F A4F A4F A14F A14F (riverD (.inl (a, a)) (.inl (b, b)) (.inl (0, 4)) 3 8 3 41 45 49) rD wd1 (xD 12 g_8) (xD 12 D) wd4 ws1 (xD 12 g_12) (xD 12 Kn) ws4 wi1 (xD 48 g_16) (xD 48 Q) wi4) H := hH
  refine lv_aload_n F.1 F.2.1 dX2_copyOf_98 rfl (lv_at hl 1 rfl) ?_
  refine tGetR (j := 8) F hK hH (tyb ha1 (all1 rfl)) rfl (all1 rfl) clX2 (by decide) wd_3_5 dX2_copyOf_99 (fun q_26 hq_26 _ => ?_)
  refine lv_aload_n F.1 F.2.1 dX2_copyOf_102 rfl (lv_at hl 0 rfl) ?_
  refine tGetR (j := 8) F hK hH (tyb ha0 (all1 rfl)) rfl (all1 rfl) clX2 (by decide) wd_3_5 dX2_copyOf_103 (fun q_27 hq_27 _ => ?_)
  refine tNv (host := RX6) (As := [.ref q_26, .ref q_27]) (rest := []) F hK hN hO (c_X6_copyRow_A14F E dA dB rA (riverD (.inl (a, a)) (.inl (b, b)) (.inl (0, 4)) 32 34 36 40 44 48) rc rd tp A14F A14F A4F A4F A14F A14F (riverD (.inl (a, a)) (.inl (b, b)) (.inl (0, 4)) 3 8 3 41 45 49) rD wd1 (xD 12 g_8) (xD 12 D) wd4 ws1 (xD 12 g_12) (xD 12 Kn) ws4 wi1 (xD 48 g_16) (xD 48 Q) wi4 q_26 q_27 hq_26 hq_27) ms_X6_copyRow hN.1.2.2.2.2.2 ⟨Nat.le_of_ble_eq_true rfl, Nat.le_of_ble_eq_true rfl⟩ ⟨Nat.le_of_ble_eq_true rfl, Nat.le_of_ble_eq_true rfl⟩ hH hS rfl hl.1 (Nat.le_of_ble_eq_true rfl) dX2_copyOf_106 (fun H locs hq hS => ?_)
  have hH := hq
  have hH : TH E (tbC dA dB rA (riverD (.inl (a, a)) (.inl (b, b)) (.inl (0, 4)) 32 34 36 40 44 48) rc rd tp A14F A14F A4F A4F A14F A14F (riverD (.inl (a, a)) (.inl (b, b)) (.inl (0, 4)) 3 8 3 41 45 49) rD wd1 (xD 12 g_8) (xD 12 D) wd4 ws1 (xD 12 g_12) (xD 12 Kn) ws4 wi1 (xD 48 g_16) (xD 48 Q) wi4) H := hH
  refine lv_aload_n F.1 F.2.1 dX2_copyOf_109 rfl (lv_at hl 1 rfl) ?_
  refine tGetR (j := 9) F hK hH (tyb ha1 (all1 rfl)) rfl (all1 rfl) clX2 (by decide) wd_3_6 dX2_copyOf_110 (fun q_29 hq_29 _ => ?_)
  refine lv_aload_n F.1 F.2.1 dX2_copyOf_113 rfl (lv_at hl 0 rfl) ?_
  refine tGetR (j := 9) F hK hH (tyb ha0 (all1 rfl)) rfl (all1 rfl) clX2 (by decide) wd_3_6 dX2_copyOf_114 (fun q_30 hq_30 _ => ?_)
  refine tNv (host := RX6) (As := [.ref q_29, .ref q_30]) (rest := []) F hK hN hO (c_X6_copyRow_g E dA dB rA (riverD (.inl (a, a)) (.inl (b, b)) (.inl (0, 4)) 32 34 36 40 44 48) rc rd tp (riverD (.inl (a, a)) (.inl (b, b)) (.inl (0, 4)) 3 8 3 41 45 49) rD wd1 (xD 12 g_8) (xD 12 D) wd4 ws1 (xD 12 g_12) (xD 12 Kn) ws4 wi1 (xD 48 g_16) (xD 48 Q) wi4 q_29 q_30 (by have h9_ := hq_29; simp at h9_ ⊢; omega) (by have h9_ := hq_30; simp at h9_ ⊢; omega)) ms_X6_copyRow hN.1.2.2.2.2.2 ⟨Nat.le_of_ble_eq_true rfl, Nat.le_of_ble_eq_true rfl⟩ ⟨Nat.le_of_ble_eq_true rfl, Nat.le_of_ble_eq_true rfl⟩ hH hS rfl hl.1 (Nat.le_of_ble_eq_true rfl) dX2_copyOf_117 (fun H locs hq hS => ?_)
  have hH := hq
  have hH : TH E (tbC dA dB rA (riverD (.inl (a, a)) (.inl (b, b)) (.inl (0, 4)) 32 34 36 40 44 48) rc rd tp A14F A14F A4F A4F A14F A14F (riverD (.inl (a, a)) (.inl (b, b)) (.inl (0, 4)) 3 8 3 41 45 49) rD wd1 (xD 12 g_8) (xD 12 D) wd4 ws1 (xD 12 g_12) (xD 12 Kn) ws4 wi1 (xD 48 g_16) (xD 48 Q) wi4) H := hH
  refine lv_aload_n F.1 F.2.1 dX2_copyOf_120 rfl (lv_at hl 1 rfl) ?_
  refine tGetR (j := 10) F hK hH (tyb ha1 (all1 rfl)) rfl (all1 rfl) clX2 (by decide) wd_3_7 dX2_copyOf_121 (fun q_32 hq_32 _ => ?_)
  refine lv_aload_n F.1 F.2.1 dX2_copyOf_124 rfl (lv_at hl 0 rfl) ?_
  refine tGetR (j := 10) F hK hH (tyb ha0 (all1 rfl)) rfl (all1 rfl) clX2 (by decide) wd_3_7 dX2_copyOf_125 (fun q_33 hq_33 _ => ?_)
  refine tNv (host := RX6) (As := [.ref q_32, .ref q_33]) (rest := []) F hK hN hO (c_X6_copyRow_A14F E dA dB rA (riverD (.inl (a, a)) (.inl (b, b)) (.inl (0, 4)) 32 34 36 40 44 48) rc rd tp A14F A14F A4F A4F A14F A14F (riverD (.inl (a, a)) (.inl (b, b)) (.inl (0, 4)) 3 8 3 41 45 49) rD wd1 (xD 12 g_8) (xD 12 D) wd4 ws1 (xD 12 g_12) (xD 12 Kn) ws4 wi1 (xD 48 g_16) (xD 48 Q) wi4 q_32 q_33 hq_32 hq_33) ms_X6_copyRow hN.1.2.2.2.2.2 ⟨Nat.le_of_ble_eq_true rfl, Nat.le_of_ble_eq_true rfl⟩ ⟨Nat.le_of_ble_eq_true rfl, Nat.le_of_ble_eq_true rfl⟩ hH hS rfl hl.1 (Nat.le_of_ble_eq_true rfl) dX2_copyOf_128 (fun H locs hq hS => ?_)
  have hH := hq
  have hH : TH E (tbC dA dB rA (riverD (.inl (a, a)) (.inl (b, b)) (.inl (0, 4)) 32 34 36 40 44 48) rc rd tp A14F A14F A4F A4F A14F A14F (riverD (.inl (a, a)) (.inl (b, b)) (.inl (0, 4)) 3 8 3 41 45 49) rD wd1 (xD 12 g_8) (xD 12 D) wd4 ws1 (xD 12 g_12) (xD 12 Kn) ws4 wi1 (xD 48 g_16) (xD 48 Q) wi4) H := hH
  refine lv_aload_n F.1 F.2.1 dX2_copyOf_131 rfl (lv_at hl 1 rfl) ?_
  refine tGetR (j := 11) F hK hH (tyb ha1 (all1 rfl)) rfl (all1 rfl) clX2 (by decide) wd_3_8 dX2_copyOf_132 (fun q_35 hq_35 _ => ?_)
  refine lv_aload_n F.1 F.2.1 dX2_copyOf_135 rfl (lv_at hl 0 rfl) ?_
  refine tGetR (j := 11) F hK hH (tyb ha0 (all1 rfl)) rfl (all1 rfl) clX2 (by decide) wd_3_8 dX2_copyOf_136 (fun q_36 hq_36 _ => ?_)
  refine tNv (host := RX6) (As := [.ref q_35, .ref q_36]) (rest := []) F hK hN hO (c_X6_copyRow_A14B E dA dB rA (riverD (.inl (a, a)) (.inl (b, b)) (.inl (0, 4)) 32 34 36 40 44 48) rc rd tp A14F A14F A4F A4F A14F A14F (riverD (.inl (a, a)) (.inl (b, b)) (.inl (0, 4)) 3 8 3 41 45 49) rD wd1 (xD 12 g_8) (xD 12 D) wd4 ws1 (xD 12 g_12) (xD 12 Kn) ws4 wi1 (xD 48 g_16) (xD 48 Q) wi4 q_35 q_36 hq_35 hq_36) ms_X6_copyRow hN.1.2.2.2.2.2 ⟨Nat.le_of_ble_eq_true rfl, Nat.le_of_ble_eq_true rfl⟩ ⟨Nat.le_of_ble_eq_true rfl, Nat.le_of_ble_eq_true rfl⟩ hH hS rfl hl.1 (Nat.le_of_ble_eq_true rfl) dX2_copyOf_139 (fun H locs hq hS => ?_)
  have hH := hq
  have hH : TH E (tbC dA dB rA (riverD (.inl (a, a)) (.inl (b, b)) (.inl (0, 4)) 32 34 36 40 44 48) rc rd tp A14F A14F A4F A4F A14F A14F (riverD (.inl (a, a)) (.inl (b, b)) (.inl (0, 4)) 3 8 3 41 45 49) rD wd1 (xD 12 g_8) (xD 12 D) wd4 ws1 (xD 12 g_12) (xD 12 Kn) ws4 wi1 (xD 48 g_16) (xD 48 Q) wi4) H := hH
  refine lv_aload_n F.1 F.2.1 dX2_copyOf_142 rfl (lv_at hl 1 rfl) ?_
  refine tGetR (j := 12) F hK hH (tyb ha1 (all1 rfl)) rfl (all1 rfl) clX2 (by decide) wd_3_9 dX2_copyOf_143 (fun q_38 hq_38 _ => ?_)
  refine lv_aload_n F.1 F.2.1 dX2_copyOf_146 rfl (lv_at hl 0 rfl) ?_
  refine tGetR (j := 12) F hK hH (tyb ha0 (all1 rfl)) rfl (all1 rfl) clX2 (by decide) wd_3_9 dX2_copyOf_147 (fun q_39 hq_39 _ => ?_)
  refine tNv (host := RX6) (As := [.ref q_38, .ref q_39]) (rest := []) F hK hN hO (c_X6_copyRow_A14F E dA dB rA (riverD (.inl (a, a)) (.inl (b, b)) (.inl (0, 4)) 32 34 36 40 44 48) rc rd tp A14F A14F A4F A4F A14F A14F (riverD (.inl (a, a)) (.inl (b, b)) (.inl (0, 4)) 3 8 3 41 45 49) rD wd1 (xD 12 g_8) (xD 12 D) wd4 ws1 (xD 12 g_12) (xD 12 Kn) ws4 wi1 (xD 48 g_16) (xD 48 Q) wi4 q_38 q_39 hq_38 hq_39) ms_X6_copyRow hN.1.2.2.2.2.2 ⟨Nat.le_of_ble_eq_true rfl, Nat.le_of_ble_eq_true rfl⟩ ⟨Nat.le_of_ble_eq_true rfl, Nat.le_of_ble_eq_true rfl⟩ hH hS rfl hl.1 (Nat.le_of_ble_eq_true rfl) dX2_copyOf_150 (fun H locs hq hS => ?_)
  have hH := hq
  have hH : TH E (tbC dA dB rA (riverD (.inl (a, a)) (.inl (b, b)) (.inl (0, 4)) 32 34 36 40 44 48) rc rd tp A14F A14F A4F A4F A14F A14F (riverD (.inl (a, a)) (.inl (b, b)) (.inl (0, 4)) 3 8 3 41 45 49) rD wd1 (xD 12 g_8) (xD 12 D) wd4 ws1 (xD 12 g_12) (xD 12 Kn) ws4 wi1 (xD 48 g_16) (xD 48 Q) wi4) H := hH
  refine lv_aload_n F.1 F.2.1 dX2_copyOf_153 rfl (lv_at hl 1 rfl) ?_
  refine tGetR (j := 13) F hK hH (tyb ha1 (all1 rfl)) rfl (all1 rfl) clX2 (by decide) wd_3_10 dX2_copyOf_154 (fun q_41 hq_41 _ => ?_)
  refine lv_aload_n F.1 F.2.1 dX2_copyOf_157 rfl (lv_at hl 0 rfl) ?_
  refine tGetR (j := 13) F hK hH (tyb ha0 (all1 rfl)) rfl (all1 rfl) clX2 (by decide) wd_3_10 dX2_copyOf_158 (fun q_42 hq_42 _ => ?_)
  refine tNv (host := RX6) (As := [.ref q_41, .ref q_42]) (rest := []) F hK hN hO (c_X6_copyRow_A14L E dA dB rA (riverD (.inl (a, a)) (.inl (b, b)) (.inl (0, 4)) 32 34 36 40 44 48) rc rd tp A14F A14F A4F A4F A14F A14F (riverD (.inl (a, a)) (.inl (b, b)) (.inl (0, 4)) 3 8 3 41 45 49) rD wd1 (xD 12 g_8) (xD 12 D) wd4 ws1 (xD 12 g_12) (xD 12 Kn) ws4 wi1 (xD 48 g_16) (xD 48 Q) wi4 q_41 q_42 hq_41 hq_42) ms_X6_copyRow hN.1.2.2.2.2.2 ⟨Nat.le_of_ble_eq_true rfl, Nat.le_of_ble_eq_true rfl⟩ ⟨Nat.le_of_ble_eq_true rfl, Nat.le_of_ble_eq_true rfl⟩ hH hS rfl hl.1 (Nat.le_of_ble_eq_true rfl) dX2_copyOf_161 (fun H locs hq hS => ?_)
  have hH := hq
  have hH : TH E (tbC dA dB rA (riverD (.inl (a, a)) (.inl (b, b)) (.inl (0, 4)) 32 34 36 40 44 48) rc rd tp A14F A14F A4F A4F A14F A14F (riverD (.inl (a, a)) (.inl (b, b)) (.inl (0, 4)) 3 8 3 41 45 49) rD wd1 (xD 12 g_8) (xD 12 D) wd4 ws1 (xD 12 g_12) (xD 12 Kn) ws4 wi1 (xD 48 g_16) (xD 48 Q) wi4) H := hH
  refine lv_aload_n F.1 F.2.1 dX2_copyOf_164 rfl (lv_at hl 1 rfl) ?_
  refine tGetR (j := 15) F hK hH (tyb ha1 (all1 rfl)) rfl (all1 rfl) clX2 (by decide) wd_3_11 dX2_copyOf_165 (fun q_44 hq_44 _ => ?_)
  refine lv_aload_n F.1 F.2.1 dX2_copyOf_168 rfl (lv_at hl 0 rfl) ?_
  refine tGetR (j := 15) F hK hH (tyb ha0 (all1 rfl)) rfl (all1 rfl) clX2 (by decide) wd_3_11 dX2_copyOf_169 (fun q_45 hq_45 _ => ?_)
  refine tNv (host := RX6) (As := [.ref q_44, .ref q_45]) (rest := []) F hK hN hO (c_X6_copyRow_A4R E dA dB rA (riverD (.inl (a, a)) (.inl (b, b)) (.inl (0, 4)) 32 34 36 40 44 48) rc rd tp A14F A14F A4F A4F A14F A14F (riverD (.inl (a, a)) (.inl (b, b)) (.inl (0, 4)) 3 8 3 41 45 49) rD wd1 (xD 12 g_8) (xD 12 D) wd4 ws1 (xD 12 g_12) (xD 12 Kn) ws4 wi1 (xD 48 g_16) (xD 48 Q) wi4 q_44 q_45 hq_44 hq_45) ms_X6_copyRow hN.1.2.2.2.2.2 ⟨Nat.le_of_ble_eq_true rfl, Nat.le_of_ble_eq_true rfl⟩ ⟨Nat.le_of_ble_eq_true rfl, Nat.le_of_ble_eq_true rfl⟩ hH hS rfl hl.1 (Nat.le_of_ble_eq_true rfl) dX2_copyOf_172 (fun H locs hq hS => ?_)
  have hH := hq
  have hH : TH E (tbC dA dB rA (riverD (.inl (a, a)) (.inl (b, b)) (.inl (0, 4)) 32 34 36 40 44 48) rc rd tp A14F A14F A4F A4F A14F A14F (riverD (.inl (a, a)) (.inl (b, b)) (.inl (0, 4)) 3 8 3 41 45 49) rD wd1 (xD 12 g_8) (xD 12 D) wd4 ws1 (xD 12 g_12) (xD 12 Kn) ws4 wi1 (xD 48 g_16) (xD 48 Q) wi4) H := hH
  refine lv_aload_n F.1 F.2.1 dX2_copyOf_175 rfl (lv_at hl 1 rfl) ?_
  refine tGetR (j := 16) F hK hH (tyb ha1 (all1 rfl)) rfl (all1 rfl) clX2 (by decide) wd_3_12 dX2_copyOf_176 (fun q_47 hq_47 _ => ?_)
  refine lv_aload_n F.1 F.2.1 dX2_copyOf_179 rfl (lv_at hl 0 rfl) ?_
  refine tGetR (j := 16) F hK hH (tyb ha0 (all1 rfl)) rfl (all1 rfl) clX2 (by decide) wd_3_12 dX2_copyOf_180 (fun q_48 hq_48 _ => ?_)
  refine tNv (host := RX6) (As := [.ref q_47, .ref q_48]) (rest := []) F hK hN hO (c_X6_copyRow_A4F E dA dB rA (riverD (.inl (a, a)) (.inl (b, b)) (.inl (0, 4)) 32 34 36 40 44 48) rc rd tp A14F A14F A4F A4F A14F A14F (riverD (.inl (a, a)) (.inl (b, b)) (.inl (0, 4)) 3 8 3 41 45 49) rD wd1 (xD 12 g_8) (xD 12 D) wd4 ws1 (xD 12 g_12) (xD 12 Kn) ws4 wi1 (xD 48 g_16) (xD 48 Q) wi4 q_47 q_48 hq_47 hq_48) ms_X6_copyRow hN.1.2.2.2.2.2 ⟨Nat.le_of_ble_eq_true rfl, Nat.le_of_ble_eq_true rfl⟩ ⟨Nat.le_of_ble_eq_true rfl, Nat.le_of_ble_eq_true rfl⟩ hH hS rfl hl.1 (Nat.le_of_ble_eq_true rfl) dX2_copyOf_183 (fun H locs hq hS => ?_)
  have hH := hq
  have hH : TH E (tbC dA dB rA (riverD (.inl (a, a)) (.inl (b, b)) (.inl (0, 4)) 32 34 36 40 44 48) rc rd tp A14F A14F A4F A4F A14F A14F (riverD (.inl (a, a)) (.inl (b, b)) (.inl (0, 4)) 3 8 3 41 45 49) rD wd1 (xD 12 g_8) (xD 12 D) wd4 ws1 (xD 12 g_12) (xD 12 Kn) ws4 wi1 (xD 48 g_16) (xD 48 Q) wi4) H := hH
  refine lv_aload_n F.1 F.2.1 dX2_copyOf_186 rfl (lv_at hl 1 rfl) ?_
  refine tGetR (j := 17) F hK hH (tyb ha1 (all1 rfl)) rfl (all1 rfl) clX2 (by decide) wd_3_13 dX2_copyOf_187 (fun q_50 hq_50 _ => ?_)
  refine lv_aload_n F.1 F.2.1 dX2_copyOf_190 rfl (lv_at hl 0 rfl) ?_
  refine tGetR (j := 17) F hK hH (tyb ha0 (all1 rfl)) rfl (all1 rfl) clX2 (by decide) wd_3_13 dX2_copyOf_191 (fun q_51 hq_51 _ => ?_)
  refine tNv (host := RX6) (As := [.ref q_50, .ref q_51]) (rest := []) F hK hN hO (c_X6_copyRow_A4F E dA dB rA (riverD (.inl (a, a)) (.inl (b, b)) (.inl (0, 4)) 32 34 36 40 44 48) rc rd tp A14F A14F A4F A4F A14F A14F (riverD (.inl (a, a)) (.inl (b, b)) (.inl (0, 4)) 3 8 3 41 45 49) rD wd1 (xD 12 g_8) (xD 12 D) wd4 ws1 (xD 12 g_12) (xD 12 Kn) ws4 wi1 (xD 48 g_16) (xD 48 Q) wi4 q_50 q_51 hq_50 hq_51) ms_X6_copyRow hN.1.2.2.2.2.2 ⟨Nat.le_of_ble_eq_true rfl, Nat.le_of_ble_eq_true rfl⟩ ⟨Nat.le_of_ble_eq_true rfl, Nat.le_of_ble_eq_true rfl⟩ hH hS rfl hl.1 (Nat.le_of_ble_eq_true rfl) dX2_copyOf_194 (fun H locs hq hS => ?_)
  have hH := hq
  have hH : TH E (tbC dA dB rA (riverD (.inl (a, a)) (.inl (b, b)) (.inl (0, 4)) 32 34 36 40 44 48) rc rd tp A14F A14F A4F A4F A14F A14F (riverD (.inl (a, a)) (.inl (b, b)) (.inl (0, 4)) 3 8 3 41 45 49) rD wd1 (xD 12 g_8) (xD 12 D) wd4 ws1 (xD 12 g_12) (xD 12 Kn) ws4 wi1 (xD 48 g_16) (xD 48 Q) wi4) H := hH
  refine lv_aload_n F.1 F.2.1 dX2_copyOf_197 rfl (lv_at hl 1 rfl) ?_
  refine tGetR (j := 18) F hK hH (tyb ha1 (all1 rfl)) rfl (all1 rfl) clX2 (by decide) wd_3_14 dX2_copyOf_198 (fun q_53 hq_53 _ => ?_)
  refine lv_aload_n F.1 F.2.1 dX2_copyOf_201 rfl (lv_at hl 0 rfl) ?_
  refine tGetR (j := 18) F hK hH (tyb ha0 (all1 rfl)) rfl (all1 rfl) clX2 (by decide) wd_3_14 dX2_copyOf_202 (fun q_54 hq_54 _ => ?_)
  refine tNv (host := RX6) (As := [.ref q_53, .ref q_54]) (rest := []) F hK hN hO (c_X6_copyRow_s E dA dB rA (riverD (.inl (a, a)) (.inl (b, b)) (.inl (0, 4)) 32 34 36 40 44 48) rc rd tp (riverD (.inl (a, a)) (.inl (b, b)) (.inl (0, 4)) 3 8 3 41 45 49) rD wd1 (xD 12 g_8) (xD 12 D) wd4 ws1 (xD 12 g_12) (xD 12 Kn) ws4 wi1 (xD 48 g_16) (xD 48 Q) wi4 q_53 q_54 (by have h9_ := hq_53; simp at h9_ ⊢; omega) (by have h9_ := hq_54; simp at h9_ ⊢; omega)) ms_X6_copyRow hN.1.2.2.2.2.2 ⟨Nat.le_of_ble_eq_true rfl, Nat.le_of_ble_eq_true rfl⟩ ⟨Nat.le_of_ble_eq_true rfl, Nat.le_of_ble_eq_true rfl⟩ hH hS rfl hl.1 (Nat.le_of_ble_eq_true rfl) dX2_copyOf_205 (fun H locs hq hS => ?_)
  have hH := hq
  have hH : TH E (tbC dA dB rA (riverD (.inl (a, a)) (.inl (b, b)) (.inl (0, 4)) 32 34 36 40 44 48) rc rd tp A14F A14F A4F A4F A14F A14F (riverD (.inl (a, a)) (.inl (b, b)) (.inl (0, 4)) 3 8 3 41 45 49) rD wd1 (xD 12 g_8) (xD 12 D) wd4 ws1 (xD 12 g_12) (xD 12 Kn) ws4 wi1 (xD 48 g_16) (xD 48 Q) wi4) H := hH
  exact txV F hS dX2_copyOf_208 (⟨g_8, ⟨hg_8.1, hg_8.2⟩, g_12, ⟨hg_12.1, hg_12.2⟩, g_16, ⟨hg_16.1, hg_16.2⟩, hH⟩)
set_option maxHeartbeats 4000000 in
set_option maxRecDepth 100000 in
theorem c_X2_copyOfx_27_38 (E : Ev) (dA : TD) (dB : TD) (rA : TD) (rc : TD) (rd : TD) (tp : TD) (rC : TD) (wd1 : TD) (wd3 : TD) (ws1 : TD) (ws3 : TD) (wi1 : TD) (wi3 : TD) (Fa2 : Int × Int) (Fb2 : Int × Int) (a : Int) (b : Int) (D1 : Nat → Int32) (D : Nat → Int32) (Kn1 : Nat → Int32) (Kn : Nat → Int32) (Q1 : Nat → Int32) (Q : Nat → Int32) (a0 : Nat) (a1 : Nat) (ha0 : eT E a0 ∈ [27]) (ha1 : eT E a1 ∈ [38]) (ha : 0 ≤ a ∧ a ≤ 12) (hb : 0 ≤ b ∧ b ≤ 14) (hD1 : ivP 12 (-2) 11 D1) (hD : ivP 12 (-2) 11 D) (hKn1 : ivP 12 (-2147483648) 2147483647 Kn1) (hKn : ivP 12 (-2147483648) 2147483647 Kn) (hQ1 : ivP 48 (-2147483648) 2147483647 Q1) (hQ : ivP 48 (-2147483648) 2147483647 Q) (hFa2 : 0 ≤ Fa2.1 ∧ Fa2.2 ≤ 12) (hFb2 : 0 ≤ Fb2.1 ∧ Fb2.2 ≤ 14) : TcV E yX2_copyOf cX2_copyOf 2 ({ frames := 2, cells := 0, slots := 0, locals := 61 }) [.ref a0, .ref a1] (fun H => TH E (tbC dA dB rA (riverD (.inl Fa2) (.inl Fb2) (.inl (0, 4)) 32 34 36 40 44 48) rc rd tp A14F A14F A4F A4F A14F A14F rC (riverD (.inl (a, a)) (.inl (b, b)) (.inl (0, 4)) 3 8 3 42 46 50) wd1 (xD 12 D1) wd3 (xD 12 D) ws1 (xD 12 Kn1) ws3 (xD 12 Kn) wi1 (xD 48 Q1) wi3 (xD 48 Q)) H) (fun H => ∃ D2 : Nat → Int32, (ivP 12 (-2) 11 D2 ∧ ∀ j : Nat, j < 12 → D2 j = D j) ∧ ∃ Kn2 : Nat → Int32, (ivP 12 (-2147483648) 2147483647 Kn2 ∧ ∀ j : Nat, j < 12 → Kn2 j = Kn j) ∧ ∃ Q2 : Nat → Int32, (ivP 48 (-2147483648) 2147483647 Q2 ∧ ∀ j : Nat, j < 48 → Q2 j = Q j) ∧ TH E (tbC dA dB rA (riverD (.inl (a, a)) (.inl (b, b)) (.inl (0, 4)) 32 34 36 40 44 48) rc rd tp A14F A14F A4F A4F A14F A14F rC (riverD (.inl (a, a)) (.inl (b, b)) (.inl (0, 4)) 3 8 3 42 46 50) wd1 (xD 12 D2) wd3 (xD 12 D) ws1 (xD 12 Kn2) ws3 (xD 12 Kn) wi1 (xD 48 Q2) wi3 (xD 48 Q)) H) := by
  refine teV (by decide) (Nat.le_of_ble_eq_true rfl) ?_
  intro p_ ev_ s mi_ below_ meth cd_ ls F hK hN hO hH hS hl
  have hH : TH E (tbC dA dB rA (riverD (.inl Fa2) (.inl Fb2) (.inl (0, 4)) 32 34 36 40 44 48) rc rd tp A14F A14F A4F A4F A14F A14F rC (riverD (.inl (a, a)) (.inl (b, b)) (.inl (0, 4)) 3 8 3 42 46 50) wd1 (xD 12 D1) wd3 (xD 12 D) ws1 (xD 12 Kn1) ws3 (xD 12 Kn) wi1 (xD 48 Q1) wi3 (xD 48 Q)) s.heap := hH
  have hl : lv_has ls 2 [(0, .ref a0), (1, .ref a1)] := hl
  refine lv_aload_n F.1 F.2.1 dX2_copyOf_0 rfl (lv_at hl 0 rfl) ?_
  refine lv_aload_n F.1 F.2.1 dX2_copyOf_1 rfl (lv_at hl 1 rfl) ?_
  refine tGetI (j := 0) F hK hH (tyb ha1 (all1 rfl)) rfl clX2 (by decide) wd_9_11 dX2_copyOf_2 (fun z_1 hz_1 => ?_)
  have ez_1 : 0 ≤ z_1.toInt ∧ z_1.toInt ≤ 12 := by omega
  refine tPutG (j := 0) (t := 27) (fd := (.inl (a, a))) F hK hH hS (List.mem_singleton.mp ha0) (by decide) rfl rfl (fdI (by omega)) (TB1 := (tbC dA dB rA (riverD (.inl (a, a)) (.inl Fb2) (.inl (0, 4)) 32 34 36 40 44 48) rc rd tp A14F A14F A4F A4F A14F A14F rC (riverD (.inl (a, a)) (.inl (b, b)) (.inl (0, 4)) 3 8 3 42 46 50) wd1 (xD 12 D1) wd3 (xD 12 D) ws1 (xD 12 Kn1) ws3 (xD 12 Kn) wi1 (xD 48 Q1) wi3 (xD 48 Q))) rfl clX2 (by decide) wd_9_11 rfl rfl rfl rfl dX2_copyOf_5 (fun H locs hH hS => ?_)
  refine lv_aload_n F.1 F.2.1 dX2_copyOf_8 rfl (lv_at hl 0 rfl) ?_
  refine lv_aload_n F.1 F.2.1 dX2_copyOf_9 rfl (lv_at hl 1 rfl) ?_
  refine tGetI (j := 4) F hK hH (tyb ha1 (all1 rfl)) rfl clX2 (by decide) wd_9_12 dX2_copyOf_10 (fun z_2 hz_2 => ?_)
  have ez_2 : 0 ≤ z_2.toInt ∧ z_2.toInt ≤ 14 := by omega
  refine tPutG (j := 4) (t := 27) (fd := (.inl (b, b))) F hK hH hS (List.mem_singleton.mp ha0) (by decide) rfl rfl (fdI (by omega)) (TB1 := (tbC dA dB rA (riverD (.inl (a, a)) (.inl (b, b)) (.inl (0, 4)) 32 34 36 40 44 48) rc rd tp A14F A14F A4F A4F A14F A14F rC (riverD (.inl (a, a)) (.inl (b, b)) (.inl (0, 4)) 3 8 3 42 46 50) wd1 (xD 12 D1) wd3 (xD 12 D) ws1 (xD 12 Kn1) ws3 (xD 12 Kn) wi1 (xD 48 Q1) wi3 (xD 48 Q))) rfl clX2 (by decide) wd_9_12 rfl rfl rfl rfl dX2_copyOf_13 (fun H locs hH hS => ?_)
  refine lv_aload_n F.1 F.2.1 dX2_copyOf_16 rfl (lv_at hl 0 rfl) ?_
  refine lv_aload_n F.1 F.2.1 dX2_copyOf_17 rfl (lv_at hl 1 rfl) ?_
  refine tGetI (j := 14) F hK hH (tyb ha1 (all1 rfl)) rfl clX2 (by decide) wd_9_13 dX2_copyOf_18 (fun z_3 hz_3 => ?_)
  refine tPut (j := 14) F hK hH hS (tyb ha0 (all1 rfl)) rfl (fdI hz_3) clX2 (by decide) wd_9_13 rfl rfl rfl rfl dX2_copyOf_21 (fun H locs hH hS => ?_)
  refine lv_aload_n F.1 F.2.1 dX2_copyOf_24 rfl (lv_at hl 0 rfl) ?_
  refine lv_aload_n F.1 F.2.1 dX2_copyOf_25 rfl (lv_at hl 1 rfl) ?_
  refine tGetI (j := 19) F hK hH (tyb ha1 (all1 rfl)) rfl clX2 (by decide) wd_3_15 dX2_copyOf_26 (fun z_4 hz_4 => ?_)
  refine tPut (j := 19) F hK hH hS (tyb ha0 (all1 rfl)) rfl (fdI hz_4) clX2 (by decide) wd_3_15 rfl rfl rfl rfl dX2_copyOf_29 (fun H locs hH hS => ?_)
  refine lv_aload_n F.1 F.2.1 dX2_copyOf_32 rfl (lv_at hl 1 rfl) ?_
  refine tGetR (j := 1) F hK hH (tyb ha1 (all1 rfl)) rfl (all1 rfl) clX2 (by decide) wd_2_23 dX2_copyOf_33 (fun q_5 hq_5 _ => ?_)
  refine lv_aload_n F.1 F.2.1 dX2_copyOf_36 rfl (lv_at hl 0 rfl) ?_
  refine tGetR (j := 1) F hK hH (tyb ha0 (all1 rfl)) rfl (all1 rfl) clX2 (by decide) wd_2_23 dX2_copyOf_37 (fun q_6 hq_6 _ => ?_)
  refine tNv (host := RX6) (As := [.ref q_5, .ref q_6]) (rest := []) F hK hN hO (c_X6_copyRow_pd_2_4 E dA dB rA (riverD (.inl (a, a)) (.inl (b, b)) (.inl (0, 4)) 32 34 36 40 44 48) rc rd tp A14F A14F A4F A4F A14F A14F rC (riverD (.inl (a, a)) (.inl (b, b)) (.inl (0, 4)) 3 8 3 42 46 50) wd1 wd3 ws1 (xD 12 Kn1) ws3 (xD 12 Kn) wi1 (xD 48 Q1) wi3 (xD 48 Q) D1 D q_5 q_6 hq_5 hq_6 hD1 hD) ms_X6_copyRow hN.1.2.2.2.2.2 ⟨Nat.le_of_ble_eq_true rfl, Nat.le_of_ble_eq_true rfl⟩ ⟨Nat.le_of_ble_eq_true rfl, Nat.le_of_ble_eq_true rfl⟩ hH hS rfl hl.1 (Nat.le_of_ble_eq_true rfl) dX2_copyOf_40 (fun H locs hq hS => ?_)
  obtain ⟨g_8, hg_8, hH⟩ := hq
  have hH : TH E (tbC dA dB rA (riverD (.inl (a, a)) (.inl (b, b)) (.inl (0, 4)) 32 34 36 40 44 48) rc rd tp A14F A14F A4F A4F A14F A14F rC (riverD (.inl (a, a)) (.inl (b, b)) (.inl (0, 4)) 3 8 3 42 46 50) wd1 (xD 12 g_8) wd3 (xD 12 D) ws1 (xD 12 Kn1) ws3 (xD 12 Kn) wi1 (xD 48 Q1) wi3 (xD 48 Q)) H := hH
  refine lv_aload_n F.1 F.2.1 dX2_copyOf_43 rfl (lv_at hl 1 rfl) ?_
  refine tGetR (j := 2) F hK hH (tyb ha1 (all1 rfl)) rfl (all1 rfl) clX2 (by decide) wd_3_0 dX2_copyOf_44 (fun q_9 hq_9 _ => ?_)
  refine lv_aload_n F.1 F.2.1 dX2_copyOf_47 rfl (lv_at hl 0 rfl) ?_
  refine tGetR (j := 2) F hK hH (tyb ha0 (all1 rfl)) rfl (all1 rfl) clX2 (by decide) wd_3_0 dX2_copyOf_48 (fun q_10 hq_10 _ => ?_)
  refine tNv (host := RX6) (As := [.ref q_9, .ref q_10]) (rest := []) F hK hN hO (c_X6_copyRow_ps_2_4 E dA dB rA (riverD (.inl (a, a)) (.inl (b, b)) (.inl (0, 4)) 32 34 36 40 44 48) rc rd tp A14F A14F A4F A4F A14F A14F rC (riverD (.inl (a, a)) (.inl (b, b)) (.inl (0, 4)) 3 8 3 42 46 50) wd1 (xD 12 g_8) wd3 (xD 12 D) ws1 ws3 wi1 (xD 48 Q1) wi3 (xD 48 Q) Kn1 Kn q_9 q_10 hq_9 hq_10 hKn1 hKn) ms_X6_copyRow hN.1.2.2.2.2.2 ⟨Nat.le_of_ble_eq_true rfl, Nat.le_of_ble_eq_true rfl⟩ ⟨Nat.le_of_ble_eq_true rfl, Nat.le_of_ble_eq_true rfl⟩ hH hS rfl hl.1 (Nat.le_of_ble_eq_true rfl) dX2_copyOf_51 (fun H locs hq hS => ?_)
  obtain ⟨g_12, hg_12, hH⟩ := hq
  have hH : TH E (tbC dA dB rA (riverD (.inl (a, a)) (.inl (b, b)) (.inl (0, 4)) 32 34 36 40 44 48) rc rd tp A14F A14F A4F A4F A14F A14F rC (riverD (.inl (a, a)) (.inl (b, b)) (.inl (0, 4)) 3 8 3 42 46 50) wd1 (xD 12 g_8) wd3 (xD 12 D) ws1 (xD 12 g_12) ws3 (xD 12 Kn) wi1 (xD 48 Q1) wi3 (xD 48 Q)) H := hH
  refine lv_aload_n F.1 F.2.1 dX2_copyOf_54 rfl (lv_at hl 1 rfl) ?_
  refine tGetR (j := 3) F hK hH (tyb ha1 (all1 rfl)) rfl (all1 rfl) clX2 (by decide) wd_3_1 dX2_copyOf_55 (fun q_13 hq_13 _ => ?_)
  refine lv_aload_n F.1 F.2.1 dX2_copyOf_58 rfl (lv_at hl 0 rfl) ?_
  refine tGetR (j := 3) F hK hH (tyb ha0 (all1 rfl)) rfl (all1 rfl) clX2 (by decide) wd_3_1 dX2_copyOf_59 (fun q_14 hq_14 _ => ?_)
  refine tNv (host := RX6) (As := [.ref q_13, .ref q_14]) (rest := []) F hK hN hO (c_X6_copyRow_pi_2_4 E dA dB rA (riverD (.inl (a, a)) (.inl (b, b)) (.inl (0, 4)) 32 34 36 40 44 48) rc rd tp A14F A14F A4F A4F A14F A14F rC (riverD (.inl (a, a)) (.inl (b, b)) (.inl (0, 4)) 3 8 3 42 46 50) wd1 (xD 12 g_8) wd3 (xD 12 D) ws1 (xD 12 g_12) ws3 (xD 12 Kn) wi1 wi3 Q1 Q q_13 q_14 hq_13 hq_14 hQ1 hQ) ms_X6_copyRow hN.1.2.2.2.2.2 ⟨Nat.le_of_ble_eq_true rfl, Nat.le_of_ble_eq_true rfl⟩ ⟨Nat.le_of_ble_eq_true rfl, Nat.le_of_ble_eq_true rfl⟩ hH hS rfl hl.1 (Nat.le_of_ble_eq_true rfl) dX2_copyOf_62 (fun H locs hq hS => ?_)
  obtain ⟨g_16, hg_16, hH⟩ := hq
  have hH : TH E (tbC dA dB rA (riverD (.inl (a, a)) (.inl (b, b)) (.inl (0, 4)) 32 34 36 40 44 48) rc rd tp A14F A14F A4F A4F A14F A14F rC (riverD (.inl (a, a)) (.inl (b, b)) (.inl (0, 4)) 3 8 3 42 46 50) wd1 (xD 12 g_8) wd3 (xD 12 D) ws1 (xD 12 g_12) ws3 (xD 12 Kn) wi1 (xD 48 g_16) wi3 (xD 48 Q)) H := hH
  refine lv_aload_n F.1 F.2.1 dX2_copyOf_65 rfl (lv_at hl 1 rfl) ?_
  refine tGetR (j := 5) F hK hH (tyb ha1 (all1 rfl)) rfl (all1 rfl) clX2 (by decide) wd_3_2 dX2_copyOf_66 (fun q_17 hq_17 _ => ?_)
  refine lv_aload_n F.1 F.2.1 dX2_copyOf_69 rfl (lv_at hl 0 rfl) ?_
  refine tGetR (j := 5) F hK hH (tyb ha0 (all1 rfl)) rfl (all1 rfl) clX2 (by decide) wd_3_2 dX2_copyOf_70 (fun q_18 hq_18 _ => ?_)
  refine tNv (host := RX6) (As := [.ref q_17, .ref q_18]) (rest := []) F hK hN hO (c_X6_copyRow_A14R E dA dB rA (riverD (.inl (a, a)) (.inl (b, b)) (.inl (0, 4)) 32 34 36 40 44 48) rc rd tp A14F A14F A4F A4F A14F A14F rC (riverD (.inl (a, a)) (.inl (b, b)) (.inl (0, 4)) 3 8 3 42 46 50) wd1 (xD 12 g_8) wd3 (xD 12 D) ws1 (xD 12 g_12) ws3 (xD 12 Kn) wi1 (xD 48 g_16) wi3 (xD 48 Q) q_17 q_18 hq_17 hq_18) ms_X6_copyRow hN.1.2.2.2.2.2 ⟨Nat.le_of_ble_eq_true rfl, Nat.le_of_ble_eq_true rfl⟩ ⟨Nat.le_of_ble_eq_true rfl, Nat.le_of_ble_eq_true rfl⟩ hH hS rfl hl.1 (Nat.le_of_ble_eq_true rfl) dX2_copyOf_73 (fun H locs hq hS => ?_)
  have hH := hq
  have hH : TH E (tbC dA dB rA (riverD (.inl (a, a)) (.inl (b, b)) (.inl (0, 4)) 32 34 36 40 44 48) rc rd tp A14F A14F A4F A4F A14F A14F rC (riverD (.inl (a, a)) (.inl (b, b)) (.inl (0, 4)) 3 8 3 42 46 50) wd1 (xD 12 g_8) wd3 (xD 12 D) ws1 (xD 12 g_12) ws3 (xD 12 Kn) wi1 (xD 48 g_16) wi3 (xD 48 Q)) H := hH
  refine lv_aload_n F.1 F.2.1 dX2_copyOf_76 rfl (lv_at hl 1 rfl) ?_
  refine tGetR (j := 6) F hK hH (tyb ha1 (all1 rfl)) rfl (all1 rfl) clX2 (by decide) wd_3_3 dX2_copyOf_77 (fun q_20 hq_20 _ => ?_)
  refine lv_aload_n F.1 F.2.1 dX2_copyOf_80 rfl (lv_at hl 0 rfl) ?_
  refine tGetR (j := 6) F hK hH (tyb ha0 (all1 rfl)) rfl (all1 rfl) clX2 (by decide) wd_3_3 dX2_copyOf_81 (fun q_21 hq_21 _ => ?_)
  refine tNv (host := RX6) (As := [.ref q_20, .ref q_21]) (rest := []) F hK hN hO (c_X6_copyRow_A14F E dA dB rA (riverD (.inl (a, a)) (.inl (b, b)) (.inl (0, 4)) 32 34 36 40 44 48) rc rd tp A14F A14F A4F A4F A14F A14F rC (riverD (.inl (a, a)) (.inl (b, b)) (.inl (0, 4)) 3 8 3 42 46 50) wd1 (xD 12 g_8) wd3 (xD 12 D) ws1 (xD 12 g_12) ws3 (xD 12 Kn) wi1 (xD 48 g_16) wi3 (xD 48 Q) q_20 q_21 hq_20 hq_21) ms_X6_copyRow hN.1.2.2.2.2.2 ⟨Nat.le_of_ble_eq_true rfl, Nat.le_of_ble_eq_true rfl⟩ ⟨Nat.le_of_ble_eq_true rfl, Nat.le_of_ble_eq_true rfl⟩ hH hS rfl hl.1 (Nat.le_of_ble_eq_true rfl) dX2_copyOf_84 (fun H locs hq hS => ?_)
  have hH := hq
  have hH : TH E (tbC dA dB rA (riverD (.inl (a, a)) (.inl (b, b)) (.inl (0, 4)) 32 34 36 40 44 48) rc rd tp A14F A14F A4F A4F A14F A14F rC (riverD (.inl (a, a)) (.inl (b, b)) (.inl (0, 4)) 3 8 3 42 46 50) wd1 (xD 12 g_8) wd3 (xD 12 D) ws1 (xD 12 g_12) ws3 (xD 12 Kn) wi1 (xD 48 g_16) wi3 (xD 48 Q)) H := hH
  refine lv_aload_n F.1 F.2.1 dX2_copyOf_87 rfl (lv_at hl 1 rfl) ?_
  refine tGetR (j := 7) F hK hH (tyb ha1 (all1 rfl)) rfl (all1 rfl) clX2 (by decide) wd_3_4 dX2_copyOf_88 (fun q_23 hq_23 _ => ?_)
  refine lv_aload_n F.1 F.2.1 dX2_copyOf_91 rfl (lv_at hl 0 rfl) ?_
  refine tGetR (j := 7) F hK hH (tyb ha0 (all1 rfl)) rfl (all1 rfl) clX2 (by decide) wd_3_4 dX2_copyOf_92 (fun q_24 hq_24 _ => ?_)
  refine tNv (host := RX6) (As := [.ref q_23, .ref q_24]) (rest := []) F hK hN hO (c_X6_copyRow_f E dA dB rA (riverD (.inl (a, a)) (.inl (b, b)) (.inl (0, 4)) 32 34 36 40 44 48) rc rd tp rC (riverD (.inl (a, a)) (.inl (b, b)) (.inl (0, 4)) 3 8 3 42 46 50) wd1 (xD 12 g_8) wd3 (xD 12 D) ws1 (xD 12 g_12) ws3 (xD 12 Kn) wi1 (xD 48 g_16) wi3 (xD 48 Q) q_23 q_24 (by have h9_ := hq_23; simp at h9_ ⊢; omega) (by have h9_ := hq_24; simp at h9_ ⊢; omega)) ms_X6_copyRow hN.1.2.2.2.2.2 ⟨Nat.le_of_ble_eq_true rfl, Nat.le_of_ble_eq_true rfl⟩ ⟨Nat.le_of_ble_eq_true rfl, Nat.le_of_ble_eq_true rfl⟩ hH hS rfl hl.1 (Nat.le_of_ble_eq_true rfl) dX2_copyOf_95 (fun H locs hq hS => ?_)
  have hH := hq
  have hH : TH E (tbC dA dB rA (riverD (.inl (a, a)) (.inl (b, b)) (.inl (0, 4)) 32 34 36 40 44 48) rc rd tp A14F A14F A4F A4F A14F A14F rC (riverD (.inl (a, a)) (.inl (b, b)) (.inl (0, 4)) 3 8 3 42 46 50) wd1 (xD 12 g_8) wd3 (xD 12 D) ws1 (xD 12 g_12) ws3 (xD 12 Kn) wi1 (xD 48 g_16) wi3 (xD 48 Q)) H := hH
  refine lv_aload_n F.1 F.2.1 dX2_copyOf_98 rfl (lv_at hl 1 rfl) ?_
  refine tGetR (j := 8) F hK hH (tyb ha1 (all1 rfl)) rfl (all1 rfl) clX2 (by decide) wd_3_5 dX2_copyOf_99 (fun q_26 hq_26 _ => ?_)
  refine lv_aload_n F.1 F.2.1 dX2_copyOf_102 rfl (lv_at hl 0 rfl) ?_
  refine tGetR (j := 8) F hK hH (tyb ha0 (all1 rfl)) rfl (all1 rfl) clX2 (by decide) wd_3_5 dX2_copyOf_103 (fun q_27 hq_27 _ => ?_)
  refine tNv (host := RX6) (As := [.ref q_26, .ref q_27]) (rest := []) F hK hN hO (c_X6_copyRow_A14F E dA dB rA (riverD (.inl (a, a)) (.inl (b, b)) (.inl (0, 4)) 32 34 36 40 44 48) rc rd tp A14F A14F A4F A4F A14F A14F rC (riverD (.inl (a, a)) (.inl (b, b)) (.inl (0, 4)) 3 8 3 42 46 50) wd1 (xD 12 g_8) wd3 (xD 12 D) ws1 (xD 12 g_12) ws3 (xD 12 Kn) wi1 (xD 48 g_16) wi3 (xD 48 Q) q_26 q_27 hq_26 hq_27) ms_X6_copyRow hN.1.2.2.2.2.2 ⟨Nat.le_of_ble_eq_true rfl, Nat.le_of_ble_eq_true rfl⟩ ⟨Nat.le_of_ble_eq_true rfl, Nat.le_of_ble_eq_true rfl⟩ hH hS rfl hl.1 (Nat.le_of_ble_eq_true rfl) dX2_copyOf_106 (fun H locs hq hS => ?_)
  have hH := hq
  have hH : TH E (tbC dA dB rA (riverD (.inl (a, a)) (.inl (b, b)) (.inl (0, 4)) 32 34 36 40 44 48) rc rd tp A14F A14F A4F A4F A14F A14F rC (riverD (.inl (a, a)) (.inl (b, b)) (.inl (0, 4)) 3 8 3 42 46 50) wd1 (xD 12 g_8) wd3 (xD 12 D) ws1 (xD 12 g_12) ws3 (xD 12 Kn) wi1 (xD 48 g_16) wi3 (xD 48 Q)) H := hH
  refine lv_aload_n F.1 F.2.1 dX2_copyOf_109 rfl (lv_at hl 1 rfl) ?_
  refine tGetR (j := 9) F hK hH (tyb ha1 (all1 rfl)) rfl (all1 rfl) clX2 (by decide) wd_3_6 dX2_copyOf_110 (fun q_29 hq_29 _ => ?_)
  refine lv_aload_n F.1 F.2.1 dX2_copyOf_113 rfl (lv_at hl 0 rfl) ?_
  refine tGetR (j := 9) F hK hH (tyb ha0 (all1 rfl)) rfl (all1 rfl) clX2 (by decide) wd_3_6 dX2_copyOf_114 (fun q_30 hq_30 _ => ?_)
  refine tNv (host := RX6) (As := [.ref q_29, .ref q_30]) (rest := []) F hK hN hO (c_X6_copyRow_g E dA dB rA (riverD (.inl (a, a)) (.inl (b, b)) (.inl (0, 4)) 32 34 36 40 44 48) rc rd tp rC (riverD (.inl (a, a)) (.inl (b, b)) (.inl (0, 4)) 3 8 3 42 46 50) wd1 (xD 12 g_8) wd3 (xD 12 D) ws1 (xD 12 g_12) ws3 (xD 12 Kn) wi1 (xD 48 g_16) wi3 (xD 48 Q) q_29 q_30 (by have h9_ := hq_29; simp at h9_ ⊢; omega) (by have h9_ := hq_30; simp at h9_ ⊢; omega)) ms_X6_copyRow hN.1.2.2.2.2.2 ⟨Nat.le_of_ble_eq_true rfl, Nat.le_of_ble_eq_true rfl⟩ ⟨Nat.le_of_ble_eq_true rfl, Nat.le_of_ble_eq_true rfl⟩ hH hS rfl hl.1 (Nat.le_of_ble_eq_true rfl) dX2_copyOf_117 (fun H locs hq hS => ?_)
  have hH := hq
  have hH : TH E (tbC dA dB rA (riverD (.inl (a, a)) (.inl (b, b)) (.inl (0, 4)) 32 34 36 40 44 48) rc rd tp A14F A14F A4F A4F A14F A14F rC (riverD (.inl (a, a)) (.inl (b, b)) (.inl (0, 4)) 3 8 3 42 46 50) wd1 (xD 12 g_8) wd3 (xD 12 D) ws1 (xD 12 g_12) ws3 (xD 12 Kn) wi1 (xD 48 g_16) wi3 (xD 48 Q)) H := hH
  refine lv_aload_n F.1 F.2.1 dX2_copyOf_120 rfl (lv_at hl 1 rfl) ?_
  refine tGetR (j := 10) F hK hH (tyb ha1 (all1 rfl)) rfl (all1 rfl) clX2 (by decide) wd_3_7 dX2_copyOf_121 (fun q_32 hq_32 _ => ?_)
  refine lv_aload_n F.1 F.2.1 dX2_copyOf_124 rfl (lv_at hl 0 rfl) ?_
  refine tGetR (j := 10) F hK hH (tyb ha0 (all1 rfl)) rfl (all1 rfl) clX2 (by decide) wd_3_7 dX2_copyOf_125 (fun q_33 hq_33 _ => ?_)
  refine tNv (host := RX6) (As := [.ref q_32, .ref q_33]) (rest := []) F hK hN hO (c_X6_copyRow_A14F E dA dB rA (riverD (.inl (a, a)) (.inl (b, b)) (.inl (0, 4)) 32 34 36 40 44 48) rc rd tp A14F A14F A4F A4F A14F A14F rC (riverD (.inl (a, a)) (.inl (b, b)) (.inl (0, 4)) 3 8 3 42 46 50) wd1 (xD 12 g_8) wd3 (xD 12 D) ws1 (xD 12 g_12) ws3 (xD 12 Kn) wi1 (xD 48 g_16) wi3 (xD 48 Q) q_32 q_33 hq_32 hq_33) ms_X6_copyRow hN.1.2.2.2.2.2 ⟨Nat.le_of_ble_eq_true rfl, Nat.le_of_ble_eq_true rfl⟩ ⟨Nat.le_of_ble_eq_true rfl, Nat.le_of_ble_eq_true rfl⟩ hH hS rfl hl.1 (Nat.le_of_ble_eq_true rfl) dX2_copyOf_128 (fun H locs hq hS => ?_)
  have hH := hq
  have hH : TH E (tbC dA dB rA (riverD (.inl (a, a)) (.inl (b, b)) (.inl (0, 4)) 32 34 36 40 44 48) rc rd tp A14F A14F A4F A4F A14F A14F rC (riverD (.inl (a, a)) (.inl (b, b)) (.inl (0, 4)) 3 8 3 42 46 50) wd1 (xD 12 g_8) wd3 (xD 12 D) ws1 (xD 12 g_12) ws3 (xD 12 Kn) wi1 (xD 48 g_16) wi3 (xD 48 Q)) H := hH
  refine lv_aload_n F.1 F.2.1 dX2_copyOf_131 rfl (lv_at hl 1 rfl) ?_
  refine tGetR (j := 11) F hK hH (tyb ha1 (all1 rfl)) rfl (all1 rfl) clX2 (by decide) wd_3_8 dX2_copyOf_132 (fun q_35 hq_35 _ => ?_)
  refine lv_aload_n F.1 F.2.1 dX2_copyOf_135 rfl (lv_at hl 0 rfl) ?_
  refine tGetR (j := 11) F hK hH (tyb ha0 (all1 rfl)) rfl (all1 rfl) clX2 (by decide) wd_3_8 dX2_copyOf_136 (fun q_36 hq_36 _ => ?_)
  refine tNv (host := RX6) (As := [.ref q_35, .ref q_36]) (rest := []) F hK hN hO (c_X6_copyRow_A14B E dA dB rA (riverD (.inl (a, a)) (.inl (b, b)) (.inl (0, 4)) 32 34 36 40 44 48) rc rd tp A14F A14F A4F A4F A14F A14F rC (riverD (.inl (a, a)) (.inl (b, b)) (.inl (0, 4)) 3 8 3 42 46 50) wd1 (xD 12 g_8) wd3 (xD 12 D) ws1 (xD 12 g_12) ws3 (xD 12 Kn) wi1 (xD 48 g_16) wi3 (xD 48 Q) q_35 q_36 hq_35 hq_36) ms_X6_copyRow hN.1.2.2.2.2.2 ⟨Nat.le_of_ble_eq_true rfl, Nat.le_of_ble_eq_true rfl⟩ ⟨Nat.le_of_ble_eq_true rfl, Nat.le_of_ble_eq_true rfl⟩ hH hS rfl hl.1 (Nat.le_of_ble_eq_true rfl) dX2_copyOf_139 (fun H locs hq hS => ?_)
  have hH := hq
  have hH : TH E (tbC dA dB rA (riverD (.inl (a, a)) (.inl (b, b)) (.inl (0, 4)) 32 34 36 40 44 48) rc rd tp A14F A14F A4F A4F A14F A14F rC (riverD (.inl (a, a)) (.inl (b, b)) (.inl (0, 4)) 3 8 3 42 46 50) wd1 (xD 12 g_8) wd3 (xD 12 D) ws1 (xD 12 g_12) ws3 (xD 12 Kn) wi1 (xD 48 g_16) wi3 (xD 48 Q)) H := hH
  refine lv_aload_n F.1 F.2.1 dX2_copyOf_142 rfl (lv_at hl 1 rfl) ?_
  refine tGetR (j := 12) F hK hH (tyb ha1 (all1 rfl)) rfl (all1 rfl) clX2 (by decide) wd_3_9 dX2_copyOf_143 (fun q_38 hq_38 _ => ?_)
  refine lv_aload_n F.1 F.2.1 dX2_copyOf_146 rfl (lv_at hl 0 rfl) ?_
  refine tGetR (j := 12) F hK hH (tyb ha0 (all1 rfl)) rfl (all1 rfl) clX2 (by decide) wd_3_9 dX2_copyOf_147 (fun q_39 hq_39 _ => ?_)
  refine tNv (host := RX6) (As := [.ref q_38, .ref q_39]) (rest := []) F hK hN hO (c_X6_copyRow_A14F E dA dB rA (riverD (.inl (a, a)) (.inl (b, b)) (.inl (0, 4)) 32 34 36 40 44 48) rc rd tp A14F A14F A4F A4F A14F A14F rC (riverD (.inl (a, a)) (.inl (b, b)) (.inl (0, 4)) 3 8 3 42 46 50) wd1 (xD 12 g_8) wd3 (xD 12 D) ws1 (xD 12 g_12) ws3 (xD 12 Kn) wi1 (xD 48 g_16) wi3 (xD 48 Q) q_38 q_39 hq_38 hq_39) ms_X6_copyRow hN.1.2.2.2.2.2 ⟨Nat.le_of_ble_eq_true rfl, Nat.le_of_ble_eq_true rfl⟩ ⟨Nat.le_of_ble_eq_true rfl, Nat.le_of_ble_eq_true rfl⟩ hH hS rfl hl.1 (Nat.le_of_ble_eq_true rfl) dX2_copyOf_150 (fun H locs hq hS => ?_)
  have hH := hq
  have hH : TH E (tbC dA dB rA (riverD (.inl (a, a)) (.inl (b, b)) (.inl (0, 4)) 32 34 36 40 44 48) rc rd tp A14F A14F A4F A4F A14F A14F rC (riverD (.inl (a, a)) (.inl (b, b)) (.inl (0, 4)) 3 8 3 42 46 50) wd1 (xD 12 g_8) wd3 (xD 12 D) ws1 (xD 12 g_12) ws3 (xD 12 Kn) wi1 (xD 48 g_16) wi3 (xD 48 Q)) H := hH
  refine lv_aload_n F.1 F.2.1 dX2_copyOf_153 rfl (lv_at hl 1 rfl) ?_
  refine tGetR (j := 13) F hK hH (tyb ha1 (all1 rfl)) rfl (all1 rfl) clX2 (by decide) wd_3_10 dX2_copyOf_154 (fun q_41 hq_41 _ => ?_)
  refine lv_aload_n F.1 F.2.1 dX2_copyOf_157 rfl (lv_at hl 0 rfl) ?_
  refine tGetR (j := 13) F hK hH (tyb ha0 (all1 rfl)) rfl (all1 rfl) clX2 (by decide) wd_3_10 dX2_copyOf_158 (fun q_42 hq_42 _ => ?_)
  refine tNv (host := RX6) (As := [.ref q_41, .ref q_42]) (rest := []) F hK hN hO (c_X6_copyRow_A14L E dA dB rA (riverD (.inl (a, a)) (.inl (b, b)) (.inl (0, 4)) 32 34 36 40 44 48) rc rd tp A14F A14F A4F A4F A14F A14F rC (riverD (.inl (a, a)) (.inl (b, b)) (.inl (0, 4)) 3 8 3 42 46 50) wd1 (xD 12 g_8) wd3 (xD 12 D) ws1 (xD 12 g_12) ws3 (xD 12 Kn) wi1 (xD 48 g_16) wi3 (xD 48 Q) q_41 q_42 hq_41 hq_42) ms_X6_copyRow hN.1.2.2.2.2.2 ⟨Nat.le_of_ble_eq_true rfl, Nat.le_of_ble_eq_true rfl⟩ ⟨Nat.le_of_ble_eq_true rfl, Nat.le_of_ble_eq_true rfl⟩ hH hS rfl hl.1 (Nat.le_of_ble_eq_true rfl) dX2_copyOf_161 (fun H locs hq hS => ?_)
  have hH := hq
  have hH : TH E (tbC dA dB rA (riverD (.inl (a, a)) (.inl (b, b)) (.inl (0, 4)) 32 34 36 40 44 48) rc rd tp A14F A14F A4F A4F A14F A14F rC (riverD (.inl (a, a)) (.inl (b, b)) (.inl (0, 4)) 3 8 3 42 46 50) wd1 (xD 12 g_8) wd3 (xD 12 D) ws1 (xD 12 g_12) ws3 (xD 12 Kn) wi1 (xD 48 g_16) wi3 (xD 48 Q)) H := hH
  refine lv_aload_n F.1 F.2.1 dX2_copyOf_164 rfl (lv_at hl 1 rfl) ?_
  refine tGetR (j := 15) F hK hH (tyb ha1 (all1 rfl)) rfl (all1 rfl) clX2 (by decide) wd_3_11 dX2_copyOf_165 (fun q_44 hq_44 _ => ?_)
  refine lv_aload_n F.1 F.2.1 dX2_copyOf_168 rfl (lv_at hl 0 rfl) ?_
  refine tGetR (j := 15) F hK hH (tyb ha0 (all1 rfl)) rfl (all1 rfl) clX2 (by decide) wd_3_11 dX2_copyOf_169 (fun q_45 hq_45 _ => ?_)
  refine tNv (host := RX6) (As := [.ref q_44, .ref q_45]) (rest := []) F hK hN hO (c_X6_copyRow_A4R E dA dB rA (riverD (.inl (a, a)) (.inl (b, b)) (.inl (0, 4)) 32 34 36 40 44 48) rc rd tp A14F A14F A4F A4F A14F A14F rC (riverD (.inl (a, a)) (.inl (b, b)) (.inl (0, 4)) 3 8 3 42 46 50) wd1 (xD 12 g_8) wd3 (xD 12 D) ws1 (xD 12 g_12) ws3 (xD 12 Kn) wi1 (xD 48 g_16) wi3 (xD 48 Q) q_44 q_45 hq_44 hq_45) ms_X6_copyRow hN.1.2.2.2.2.2 ⟨Nat.le_of_ble_eq_true rfl, Nat.le_of_ble_eq_true rfl⟩ ⟨Nat.le_of_ble_eq_true rfl, Nat.le_of_ble_eq_true rfl⟩ hH hS rfl hl.1 (Nat.le_of_ble_eq_true rfl) dX2_copyOf_172 (fun H locs hq hS => ?_)
  have hH := hq
  have hH : TH E (tbC dA dB rA (riverD (.inl (a, a)) (.inl (b, b)) (.inl (0, 4)) 32 34 36 40 44 48) rc rd tp A14F A14F A4F A4F A14F A14F rC (riverD (.inl (a, a)) (.inl (b, b)) (.inl (0, 4)) 3 8 3 42 46 50) wd1 (xD 12 g_8) wd3 (xD 12 D) ws1 (xD 12 g_12) ws3 (xD 12 Kn) wi1 (xD 48 g_16) wi3 (xD 48 Q)) H := hH
  refine lv_aload_n F.1 F.2.1 dX2_copyOf_175 rfl (lv_at hl 1 rfl) ?_
  refine tGetR (j := 16) F hK hH (tyb ha1 (all1 rfl)) rfl (all1 rfl) clX2 (by decide) wd_3_12 dX2_copyOf_176 (fun q_47 hq_47 _ => ?_)
  refine lv_aload_n F.1 F.2.1 dX2_copyOf_179 rfl (lv_at hl 0 rfl) ?_
  refine tGetR (j := 16) F hK hH (tyb ha0 (all1 rfl)) rfl (all1 rfl) clX2 (by decide) wd_3_12 dX2_copyOf_180 (fun q_48 hq_48 _ => ?_)
  refine tNv (host := RX6) (As := [.ref q_47, .ref q_48]) (rest := []) F hK hN hO (c_X6_copyRow_A4F E dA dB rA (riverD (.inl (a, a)) (.inl (b, b)) (.inl (0, 4)) 32 34 36 40 44 48) rc rd tp A14F A14F A4F A4F A14F A14F rC (riverD (.inl (a, a)) (.inl (b, b)) (.inl (0, 4)) 3 8 3 42 46 50) wd1 (xD 12 g_8) wd3 (xD 12 D) ws1 (xD 12 g_12) ws3 (xD 12 Kn) wi1 (xD 48 g_16) wi3 (xD 48 Q) q_47 q_48 hq_47 hq_48) ms_X6_copyRow hN.1.2.2.2.2.2 ⟨Nat.le_of_ble_eq_true rfl, Nat.le_of_ble_eq_true rfl⟩ ⟨Nat.le_of_ble_eq_true rfl, Nat.le_of_ble_eq_true rfl⟩ hH hS rfl hl.1 (Nat.le_of_ble_eq_true rfl) dX2_copyOf_183 (fun H locs hq hS => ?_)
  have hH := hq
  have hH : TH E (tbC dA dB rA (riverD (.inl (a, a)) (.inl (b, b)) (.inl (0, 4)) 32 34 36 40 44 48) rc rd tp A14F A14F A4F A4F A14F A14F rC (riverD (.inl (a, a)) (.inl (b, b)) (.inl (0, 4)) 3 8 3 42 46 50) wd1 (xD 12 g_8) wd3 (xD 12 D) ws1 (xD 12 g_12) ws3 (xD 12 Kn) wi1 (xD 48 g_16) wi3 (xD 48 Q)) H := hH
  refine lv_aload_n F.1 F.2.1 dX2_copyOf_186 rfl (lv_at hl 1 rfl) ?_
  refine tGetR (j := 17) F hK hH (tyb ha1 (all1 rfl)) rfl (all1 rfl) clX2 (by decide) wd_3_13 dX2_copyOf_187 (fun q_50 hq_50 _ => ?_)
  refine lv_aload_n F.1 F.2.1 dX2_copyOf_190 rfl (lv_at hl 0 rfl) ?_
  refine tGetR (j := 17) F hK hH (tyb ha0 (all1 rfl)) rfl (all1 rfl) clX2 (by decide) wd_3_13 dX2_copyOf_191 (fun q_51 hq_51 _ => ?_)
  refine tNv (host := RX6) (As := [.ref q_50, .ref q_51]) (rest := []) F hK hN hO (c_X6_copyRow_A4F E dA dB rA (riverD (.inl (a, a)) (.inl (b, b)) (.inl (0, 4)) 32 34 36 40 44 48) rc rd tp A14F A14F A4F A4F A14F A14F rC (riverD (.inl (a, a)) (.inl (b, b)) (.inl (0, 4)) 3 8 3 42 46 50) wd1 (xD 12 g_8) wd3 (xD 12 D) ws1 (xD 12 g_12) ws3 (xD 12 Kn) wi1 (xD 48 g_16) wi3 (xD 48 Q) q_50 q_51 hq_50 hq_51) ms_X6_copyRow hN.1.2.2.2.2.2 ⟨Nat.le_of_ble_eq_true rfl, Nat.le_of_ble_eq_true rfl⟩ ⟨Nat.le_of_ble_eq_true rfl, Nat.le_of_ble_eq_true rfl⟩ hH hS rfl hl.1 (Nat.le_of_ble_eq_true rfl) dX2_copyOf_194 (fun H locs hq hS => ?_)
  have hH := hq
  have hH : TH E (tbC dA dB rA (riverD (.inl (a, a)) (.inl (b, b)) (.inl (0, 4)) 32 34 36 40 44 48) rc rd tp A14F A14F A4F A4F A14F A14F rC (riverD (.inl (a, a)) (.inl (b, b)) (.inl (0, 4)) 3 8 3 42 46 50) wd1 (xD 12 g_8) wd3 (xD 12 D) ws1 (xD 12 g_12) ws3 (xD 12 Kn) wi1 (xD 48 g_16) wi3 (xD 48 Q)) H := hH
  refine lv_aload_n F.1 F.2.1 dX2_copyOf_197 rfl (lv_at hl 1 rfl) ?_
  refine tGetR (j := 18) F hK hH (tyb ha1 (all1 rfl)) rfl (all1 rfl) clX2 (by decide) wd_3_14 dX2_copyOf_198 (fun q_53 hq_53 _ => ?_)
  refine lv_aload_n F.1 F.2.1 dX2_copyOf_201 rfl (lv_at hl 0 rfl) ?_
  refine tGetR (j := 18) F hK hH (tyb ha0 (all1 rfl)) rfl (all1 rfl) clX2 (by decide) wd_3_14 dX2_copyOf_202 (fun q_54 hq_54 _ => ?_)
  refine tNv (host := RX6) (As := [.ref q_53, .ref q_54]) (rest := []) F hK hN hO (c_X6_copyRow_s E dA dB rA (riverD (.inl (a, a)) (.inl (b, b)) (.inl (0, 4)) 32 34 36 40 44 48) rc rd tp rC (riverD (.inl (a, a)) (.inl (b, b)) (.inl (0, 4)) 3 8 3 42 46 50) wd1 (xD 12 g_8) wd3 (xD 12 D) ws1 (xD 12 g_12) ws3 (xD 12 Kn) wi1 (xD 48 g_16) wi3 (xD 48 Q) q_53 q_54 (by have h9_ := hq_53; simp at h9_ ⊢; omega) (by have h9_ := hq_54; simp at h9_ ⊢; omega)) ms_X6_copyRow hN.1.2.2.2.2.2 ⟨Nat.le_of_ble_eq_true rfl, Nat.le_of_ble_eq_true rfl⟩ ⟨Nat.le_of_ble_eq_true rfl, Nat.le_of_ble_eq_true rfl⟩ hH hS rfl hl.1 (Nat.le_of_ble_eq_true rfl) dX2_copyOf_205 (fun H locs hq hS => ?_)
  have hH := hq
  have hH : TH E (tbC dA dB rA (riverD (.inl (a, a)) (.inl (b, b)) (.inl (0, 4)) 32 34 36 40 44 48) rc rd tp A14F A14F A4F A4F A14F A14F rC (riverD (.inl (a, a)) (.inl (b, b)) (.inl (0, 4)) 3 8 3 42 46 50) wd1 (xD 12 g_8) wd3 (xD 12 D) ws1 (xD 12 g_12) ws3 (xD 12 Kn) wi1 (xD 48 g_16) wi3 (xD 48 Q)) H := hH
  exact txV F hS dX2_copyOf_208 (⟨g_8, ⟨hg_8.1, hg_8.2⟩, g_12, ⟨hg_12.1, hg_12.2⟩, g_16, ⟨hg_16.1, hg_16.2⟩, hH⟩)
set_option maxHeartbeats 4000000 in
set_option maxRecDepth 100000 in
theorem c_X6_keepx_0_1 (E : Ev) (rd : TD) (tp : TD) (Fa2 : Int × Int) (Fb2 : Int × Int) (Fa3 : Int × Int) (Fb3 : Int × Int) (Fa4 : Int × Int) (Fb4 : Int × Int) (ks : List Nat) (Pd2 : (Nat → Int32) → Prop) (Pd4 : (Nat → Int32) → Prop) (Ps2 : (Nat → Int32) → Prop) (Ps4 : (Nat → Int32) → Prop) (Pi2 : (Nat → Int32) → Prop) (Pi4 : (Nat → Int32) → Prop) (a : Int) (b : Int) (t : Int) (kb : Int) (D : Nat → Int32) (D1 : Nat → Int32) (Kn : Nat → Int32) (Kn1 : Nat → Int32) (Q : Nat → Int32) (Q1 : Nat → Int32) (a0 : Nat) (a1 : Int32) (ha0 : eT E a0 ∈ [28]) (ha1 : 0 ≤ a1.toInt ∧ a1.toInt ≤ 0) (ha : 0 ≤ a ∧ a ≤ 12) (hb : 0 ≤ b ∧ b ≤ 14) (ht : 0 ≤ t ∧ t ≤ 400) (hkb : 0 ≤ kb ∧ kb ≤ 3) (hD : ivP 12 (-2) 11 D) (hD1 : ivP 12 (-2) 11 D1) (hKn : ivP 12 (-2147483648) 2147483647 Kn) (hKn1 : ivP 12 (-2147483648) 2147483647 Kn1) (hQ : ivP 48 (-2147483648) 2147483647 Q) (hQ1 : ivP 48 (-2147483648) 2147483647 Q1) (hFa2 : 0 ≤ Fa2.1 ∧ Fa2.2 ≤ 12) (hFb2 : 0 ≤ Fb2.1 ∧ Fb2.2 ≤ 14) (hFa3 : 0 ≤ Fa3.1 ∧ Fa3.2 ≤ 12) (hFb3 : 0 ≤ Fb3.1 ∧ Fb3.2 ≤ 14) (hFa4 : 0 ≤ Fa4.1 ∧ Fa4.2 ≤ 12) (hFb4 : 0 ≤ Fb4.1 ∧ Fb4.2 ≤ 14) (hks : ∀ t ∈ ks, t ∈ [26, 27]) (hPd2 : ∀ f, Pd2 f → ivP 12 (-2) 11 f) (hPd4 : ∀ f, Pd4 f → ivP 12 (-2) 11 f) (hPs2 : ∀ f, Ps2 f → ivP 12 (-2147483648) 2147483647 f) (hPs4 : ∀ f, Ps4 f → ivP 12 (-2147483648) 2147483647 f) (hPi2 : ∀ f, Pi2 f → ivP 48 (-2147483648) 2147483647 f) (hPi4 : ∀ f, Pi4 f → ivP 48 (-2147483648) 2147483647 f) : TcI E yX6_keep cX6_keep 2 .int ({ frames := 3, cells := 0, slots := 0, locals := 82 }) [.ref a0, .int a1] (fun H => TH E (tbC (dayD (.inl (0, 18))) (dayD (.inl (0, 18))) (riverD (.inl (a, a)) (.inl (b, b)) (.inl (0, 4)) 31 33 35 39 43 47) (riverD (.inl Fa2) (.inl Fb2) (.inl (0, 4)) 32 34 36 40 44 48) (rcD (.inl (t, t)) (.inr [26]) (.inr ks) (.inl (kb, kb))) rd tp A14F A14F A4F A4F A14F A14F (riverD (.inl Fa3) (.inl Fb3) (.inl (0, 4)) 3 8 3 41 45 49) (riverD (.inl Fa4) (.inl Fb4) (.inl (0, 4)) 3 8 3 42 46 50) (xD 12 D) ((.inr (.inl (0, 12, Pd2)))) (xD 12 D1) ((.inr (.inl (0, 12, Pd4)))) (xD 12 Kn) ((.inr (.inl (0, 12, Ps2)))) (xD 12 Kn1) ((.inr (.inl (0, 12, Ps4)))) (xD 48 Q) ((.inr (.inl (0, 48, Pi2)))) (xD 48 Q1) ((.inr (.inl (0, 48, Pi4))))) H) (fun v H => ∃ kb2 : Int, (0 ≤ kb2 ∧ kb2 ≤ 3 ∧ kb2 = kb - kb % 2 + 1) ∧ ∃ D2 : Nat → Int32, (ivP 12 (-2) 11 D2 ∧ ∀ j : Nat, j < 12 → D2 j = D j) ∧ ∃ Kn2 : Nat → Int32, (ivP 12 (-2147483648) 2147483647 Kn2 ∧ ∀ j : Nat, j < 12 → Kn2 j = Kn j) ∧ ∃ Q2 : Nat → Int32, (ivP 48 (-2147483648) 2147483647 Q2 ∧ ∀ j : Nat, j < 48 → Q2 j = Q j) ∧ ((-2147483648) ≤ v.toInt ∧ v.toInt ≤ 2147483647) ∧ TH E (tbC (dayD (.inl (0, 18))) (dayD (.inl (0, 18))) (riverD (.inl (a, a)) (.inl (b, b)) (.inl (0, 4)) 31 33 35 39 43 47) (riverD (.inl Fa2) (.inl Fb2) (.inl (0, 4)) 32 34 36 40 44 48) (rcD (.inl (t, t)) (.inr [26]) (.inr ks) (.inl (kb2, kb2))) rd tp A14F A14F A4F A4F A14F A14F (riverD (.inl (a, a)) (.inl (b, b)) (.inl (0, 4)) 3 8 3 41 45 49) (riverD (.inl Fa4) (.inl Fb4) (.inl (0, 4)) 3 8 3 42 46 50) (xD 12 D) ((.inr (.inl (0, 12, Pd2)))) (xD 12 D2) ((.inr (.inl (0, 12, Pd4)))) (xD 12 Kn) ((.inr (.inl (0, 12, Ps2)))) (xD 12 Kn2) ((.inr (.inl (0, 12, Ps4)))) (xD 48 Q) ((.inr (.inl (0, 48, Pi2)))) (xD 48 Q2) ((.inr (.inl (0, 48, Pi4))))) H) := by
  refine teI (by decide) (Nat.le_of_ble_eq_true rfl) ?_
  intro p_ ev_ s mi_ below_ meth cd_ ls F hK hN hO hH hS hl
  have hH : TH E (tbC (dayD (.inl (0, 18))) (dayD (.inl (0, 18))) (riverD (.inl (a, a)) (.inl (b, b)) (.inl (0, 4)) 31 33 35 39 43 47) (riverD (.inl Fa2) (.inl Fb2) (.inl (0, 4)) 32 34 36 40 44 48) (rcD (.inl (t, t)) (.inr [26]) (.inr ks) (.inl (kb, kb))) rd tp A14F A14F A4F A4F A14F A14F (riverD (.inl Fa3) (.inl Fb3) (.inl (0, 4)) 3 8 3 41 45 49) (riverD (.inl Fa4) (.inl Fb4) (.inl (0, 4)) 3 8 3 42 46 50) (xD 12 D) ((.inr (.inl (0, 12, Pd2)))) (xD 12 D1) ((.inr (.inl (0, 12, Pd4)))) (xD 12 Kn) ((.inr (.inl (0, 12, Ps2)))) (xD 12 Kn1) ((.inr (.inl (0, 12, Ps4)))) (xD 48 Q) ((.inr (.inl (0, 48, Pi2)))) (xD 48 Q1) ((.inr (.inl (0, 48, Pi4))))) s.heap := hH
  have hl : lv_has ls 2 [(0, .ref a0), (1, .int a1)] := hl
  refine lv_iload_n F.1 F.2.1 dX6_keep_0 rfl (lv_at hl 1 rfl) ?_
  refine z_lt (tgt := 9) F dX6_keep_1 (by decide) (fun c_1 => absurd c_1 (by omega)) (fun c_1 => ?_)
  refine lv_iload_n F.1 F.2.1 dX6_keep_4 rfl (lv_at hl 1 rfl) ?_
  refine lv_iconst (v := 2) F.1 F.2.1 dX6_keep_5 (by decide) ?_
  refine topK (a := 2) (by decide) (fun k_2 hk_2 => ?_)
  refine b_lt (tgt := 11) F dX6_keep_6 (by decide) (fun c_3 => ?_) (fun c_3 => absurd c_3 (by omega))
  refine lv_aload_n F.1 F.2.1 dX6_keep_11 rfl (lv_at hl 0 rfl) ?_
  refine tGetR (j := 8) F hK hH (tyb ha0 (all1 rfl)) rfl (all1 rfl) clX6 (by decide) wd_2_0 dX6_keep_12 (fun q_4 hq_4 _ => ?_)
  refine lv_iload_n F.1 F.2.1 dX6_keep_15 rfl (lv_at hl 1 rfl) ?_
  refine tAald0 F hK hH (tyb hq_4 (all1 rfl)) rfl (ixb (n := 2) ha1 rfl rfl) dX6_keep_16 (fun q_5 hq_5 => ?_)
  have hq_5 : eT E q_5 ∈ [37] := by have h9_ := hq_5; rw [show (a1).toNatClampNeg = 0 from by show (a1).toInt.toNat = _; omega] at h9_; exact h9_
  refine lv_aload_n F.1 F.2.1 dX6_keep_17 rfl (lv_at hl 0 rfl) ?_
  refine tGetR (j := 2) F hK hH (tyb ha0 (all1 rfl)) rfl (all1 rfl) clX6 (by decide) wd_1_17 dX6_keep_18 (fun q_6 hq_6 _ => ?_)
  refine tVv (b := q_5) (As := [.ref q_6]) (rest := []) F hK hN hO (c_X2_copyOfx_37_26 E (dayD (.inl (0, 18))) (dayD (.inl (0, 18))) (riverD (.inl Fa2) (.inl Fb2) (.inl (0, 4)) 32 34 36 40 44 48) (rcD (.inl (t, t)) (.inr [26]) (.inr ks) (.inl (kb, kb))) rd tp (riverD (.inl Fa4) (.inl Fb4) (.inl (0, 4)) 3 8 3 42 46 50) ((.inr (.inl (0, 12, Pd2)))) ((.inr (.inl (0, 12, Pd4)))) ((.inr (.inl (0, 12, Ps2)))) ((.inr (.inl (0, 12, Ps4)))) ((.inr (.inl (0, 48, Pi2)))) ((.inr (.inl (0, 48, Pi4)))) Fa3 Fb3 a b D D1 Kn Kn1 Q Q1 q_5 q_6 hq_5 hq_6 (by omega) (by omega) hD hD1 hKn hKn1 hQ hQ1 hFa3 hFb3) mv_X2_copyOf wd_39_1 ⟨Nat.le_of_ble_eq_true rfl, Nat.le_of_ble_eq_true rfl⟩ ⟨Nat.le_of_ble_eq_true rfl, Nat.le_of_ble_eq_true rfl⟩ hH hS (tRecv hK hH (tyb hq_5 (all1 rfl)) clX2) rfl hl.1 (Nat.le_of_ble_eq_true rfl) dX6_keep_21 (fun H locs hq hS => ?_)
  obtain ⟨g_8, hg_8, g_9, hg_9, g_10, hg_10, hH⟩ := hq
  have hH : TH E (tbC (dayD (.inl (0, 18))) (dayD (.inl (0, 18))) (riverD (.inl (a, a)) (.inl (b, b)) (.inl (0, 4)) 31 33 35 39 43 47) (riverD (.inl Fa2) (.inl Fb2) (.inl (0, 4)) 32 34 36 40 44 48) (rcD (.inl (t, t)) (.inr [26]) (.inr ks) (.inl (kb, kb))) rd tp A14F A14F A4F A4F A14F A14F (riverD (.inl (a, a)) (.inl (b, b)) (.inl (0, 4)) 3 8 3 41 45 49) (riverD (.inl Fa4) (.inl Fb4) (.inl (0, 4)) 3 8 3 42 46 50) (xD 12 D) ((.inr (.inl (0, 12, Pd2)))) (xD 12 g_8) ((.inr (.inl (0, 12, Pd4)))) (xD 12 Kn) ((.inr (.inl (0, 12, Ps2)))) (xD 12 g_9) ((.inr (.inl (0, 12, Ps4)))) (xD 48 Q) ((.inr (.inl (0, 48, Pi2)))) (xD 48 g_10) ((.inr (.inl (0, 48, Pi4))))) H := hH
  refine lv_aload_n F.1 F.2.1 dX6_keep_24 rfl (lv_at hl 0 rfl) ?_
  refine tGetR (j := 9) F hK hH (tyb ha0 (all1 rfl)) rfl (all1 rfl) clX6 (by decide) wd_2_1 dX6_keep_25 (fun q_11 hq_11 _ => ?_)
  refine lv_iload_n F.1 F.2.1 dX6_keep_28 rfl (lv_at hl 1 rfl) ?_
  refine tAald F hK hH (tyb hq_11 (all1 rfl)) rfl (all1 rfl) (ixb (n := 2) ha1 rfl rfl) dX6_keep_29 (fun q_12 hq_12 _ => ?_)
  refine lv_aload_n F.1 F.2.1 dX6_keep_30 rfl (lv_at hl 0 rfl) ?_
  refine tGetR (j := 4) F hK hH (tyb ha0 (all1 rfl)) rfl (all1 rfl) clX6 (by decide) wd_1_22 dX6_keep_31 (fun q_13 hq_13 _ => ?_)
  refine tVv (b := q_12) (As := [.ref q_13]) (rest := []) F hK hN hO (c_X5_copyOf E (dayD (.inl (0, 18))) (dayD (.inl (0, 18))) (riverD (.inl (a, a)) (.inl (b, b)) (.inl (0, 4)) 31 33 35 39 43 47) (riverD (.inl Fa2) (.inl Fb2) (.inl (0, 4)) 32 34 36 40 44 48) (rcD (.inl (t, t)) (.inr [26]) (.inr ks) (.inl (kb, kb))) rd tp A14F A14F A4F A4F A14F A14F (riverD (.inl (a, a)) (.inl (b, b)) (.inl (0, 4)) 3 8 3 41 45 49) (riverD (.inl Fa4) (.inl Fb4) (.inl (0, 4)) 3 8 3 42 46 50) (xD 12 D) ((.inr (.inl (0, 12, Pd2)))) (xD 12 g_8) ((.inr (.inl (0, 12, Pd4)))) (xD 12 Kn) ((.inr (.inl (0, 12, Ps2)))) (xD 12 g_9) ((.inr (.inl (0, 12, Ps4)))) (xD 48 Q) ((.inr (.inl (0, 48, Pi2)))) (xD 48 g_10) ((.inr (.inl (0, 48, Pi4)))) q_12 q_13 hq_12 hq_13) mv_X5_copyOf wd_19_18 ⟨Nat.le_of_ble_eq_true rfl, Nat.le_of_ble_eq_true rfl⟩ ⟨Nat.le_of_ble_eq_true rfl, Nat.le_of_ble_eq_true rfl⟩ hH hS (tRecv hK hH (tyb hq_12 (all1 rfl)) clX5) rfl hl.1 (Nat.le_of_ble_eq_true rfl) dX6_keep_34 (fun H locs hq hS => ?_)
  have hH := hq
  have hH : TH E (tbC (dayD (.inl (0, 18))) (dayD (.inl (0, 18))) (riverD (.inl (a, a)) (.inl (b, b)) (.inl (0, 4)) 31 33 35 39 43 47) (riverD (.inl Fa2) (.inl Fb2) (.inl (0, 4)) 32 34 36 40 44 48) (rcD (.inl (t, t)) (.inr [26]) (.inr ks) (.inl (kb, kb))) rd tp A14F A14F A4F A4F A14F A14F (riverD (.inl (a, a)) (.inl (b, b)) (.inl (0, 4)) 3 8 3 41 45 49) (riverD (.inl Fa4) (.inl Fb4) (.inl (0, 4)) 3 8 3 42 46 50) (xD 12 D) ((.inr (.inl (0, 12, Pd2)))) (xD 12 g_8) ((.inr (.inl (0, 12, Pd4)))) (xD 12 Kn) ((.inr (.inl (0, 12, Ps2)))) (xD 12 g_9) ((.inr (.inl (0, 12, Ps4)))) (xD 48 Q) ((.inr (.inl (0, 48, Pi2)))) (xD 48 g_10) ((.inr (.inl (0, 48, Pi4))))) H := hH
  refine lv_aload_n F.1 F.2.1 dX6_keep_37 rfl (lv_at hl 0 rfl) ?_
  refine lv_dup F.1 F.2.1 dX6_keep_38 rfl ?_
  refine tGetI (j := 10) F hK hH (tyb ha0 (all1 rfl)) rfl clX6 (by decide) wd_39_0 dX6_keep_39 (fun z_15 hz_15 => ?_)
  have ez_15 : 0 ≤ z_15.toInt ∧ z_15.toInt ≤ 3 := by omega
  refine lv_iconst (v := 1) F.1 F.2.1 dX6_keep_42 (by decide) ?_
  refine topK (a := 1) (by decide) (fun k_16 hk_16 => ?_)
  refine lv_iload_n F.1 F.2.1 dX6_keep_43 rfl (lv_at hl 1 rfl) ?_
  refine lv_ishl F.1 F.2.1 dX6_keep_44 ?_
  refine topE (fun z_17 xz_17 => ?_)
  refine lv_ior F.1 F.2.1 dX6_keep_45 ?_
  refine topE (fun z_18 xz_18 => ?_)
  have qz_18 := kb_set0 xz_18 xz_17 (kb := kb) (by omega) (by omega) (by omega) (by omega)
  have bz_18 : 0 ≤ z_18.toInt ∧ z_18.toInt ≤ 3 := by omega
  obtain ⟨g_19, hg_19⟩ : ∃ y : Int, z_18.toInt = y := ⟨_, rfl⟩
  have bg_19 : 0 ≤ g_19 ∧ g_19 ≤ 3 := by rw [← hg_19]; exact bz_18
  refine tPutG (j := 10) (t := 28) (fd := (.inl (g_19, g_19))) F hK hH hS (List.mem_singleton.mp ha0) (by decide) rfl rfl (fdI (by omega)) (TB1 := (tbC (dayD (.inl (0, 18))) (dayD (.inl (0, 18))) (riverD (.inl (a, a)) (.inl (b, b)) (.inl (0, 4)) 31 33 35 39 43 47) (riverD (.inl Fa2) (.inl Fb2) (.inl (0, 4)) 32 34 36 40 44 48) (rcD (.inl (t, t)) (.inr [26]) (.inr ks) (.inl (g_19, g_19))) rd tp A14F A14F A4F A4F A14F A14F (riverD (.inl (a, a)) (.inl (b, b)) (.inl (0, 4)) 3 8 3 41 45 49) (riverD (.inl Fa4) (.inl Fb4) (.inl (0, 4)) 3 8 3 42 46 50) (xD 12 D) ((.inr (.inl (0, 12, Pd2)))) (xD 12 g_8) ((.inr (.inl (0, 12, Pd4)))) (xD 12 Kn) ((.inr (.inl (0, 12, Ps2)))) (xD 12 g_9) ((.inr (.inl (0, 12, Ps4)))) (xD 48 Q) ((.inr (.inl (0, 48, Pi2)))) (xD 48 g_10) ((.inr (.inl (0, 48, Pi4)))))) rfl clX6 (by decide) wd_39_0 rfl rfl rfl rfl dX6_keep_46 (fun H locs hH hS => ?_)
  refine lv_aload_n F.1 F.2.1 dX6_keep_49 rfl (lv_at hl 0 rfl) ?_
  refine tGetR (j := 4) F hK hH (tyb ha0 (all1 rfl)) rfl (all1 rfl) clX6 (by decide) wd_1_22 dX6_keep_50 (fun q_20 hq_20 _ => ?_)
  refine tGetI (j := 0) F hK hH (tyb hq_20 (all1 rfl)) rfl clX5 (by decide) wd_19_12 dX6_keep_53 (fun z_21 hz_21 => ?_)
  exact txI F hS dX6_keep_56 rfl (⟨g_19, ⟨by omega, by omega, by omega⟩, g_8, ⟨hg_8.1, hg_8.2⟩, g_9, ⟨hg_9.1, hg_9.2⟩, g_10, ⟨hg_10.1, hg_10.2⟩, (wkb hz_21 rfl rfl), hH⟩)
set_option maxHeartbeats 4000000 in
set_option maxRecDepth 100000 in
theorem c_X6_keepx_0_2 (E : Ev) (rd : TD) (tp : TD) (Fa1 : Int × Int) (Fb1 : Int × Int) (Fa3 : Int × Int) (Fb3 : Int × Int) (Fa4 : Int × Int) (Fb4 : Int × Int) (ks : List Nat) (Pd1 : (Nat → Int32) → Prop) (Pd4 : (Nat → Int32) → Prop) (Ps1 : (Nat → Int32) → Prop) (Ps4 : (Nat → Int32) → Prop) (Pi1 : (Nat → Int32) → Prop) (Pi4 : (Nat → Int32) → Prop) (a : Int) (b : Int) (t : Int) (kb : Int) (D : Nat → Int32) (D1 : Nat → Int32) (Kn : Nat → Int32) (Kn1 : Nat → Int32) (Q : Nat → Int32) (Q1 : Nat → Int32) (a0 : Nat) (a1 : Int32) (ha0 : eT E a0 ∈ [28]) (ha1 : 0 ≤ a1.toInt ∧ a1.toInt ≤ 0) (ha : 0 ≤ a ∧ a ≤ 12) (hb : 0 ≤ b ∧ b ≤ 14) (ht : 0 ≤ t ∧ t ≤ 400) (hkb : 0 ≤ kb ∧ kb ≤ 3) (hD : ivP 12 (-2) 11 D) (hD1 : ivP 12 (-2) 11 D1) (hKn : ivP 12 (-2147483648) 2147483647 Kn) (hKn1 : ivP 12 (-2147483648) 2147483647 Kn1) (hQ : ivP 48 (-2147483648) 2147483647 Q) (hQ1 : ivP 48 (-2147483648) 2147483647 Q1) (hFa1 : 0 ≤ Fa1.1 ∧ Fa1.2 ≤ 12) (hFb1 : 0 ≤ Fb1.1 ∧ Fb1.2 ≤ 14) (hFa3 : 0 ≤ Fa3.1 ∧ Fa3.2 ≤ 12) (hFb3 : 0 ≤ Fb3.1 ∧ Fb3.2 ≤ 14) (hFa4 : 0 ≤ Fa4.1 ∧ Fa4.2 ≤ 12) (hFb4 : 0 ≤ Fb4.1 ∧ Fb4.2 ≤ 14) (hks : ∀ t ∈ ks, t ∈ [26, 27]) (hPd1 : ∀ f, Pd1 f → ivP 12 (-2) 11 f) (hPd4 : ∀ f, Pd4 f → ivP 12 (-2) 11 f) (hPs1 : ∀ f, Ps1 f → ivP 12 (-2147483648) 2147483647 f) (hPs4 : ∀ f, Ps4 f → ivP 12 (-2147483648) 2147483647 f) (hPi1 : ∀ f, Pi1 f → ivP 48 (-2147483648) 2147483647 f) (hPi4 : ∀ f, Pi4 f → ivP 48 (-2147483648) 2147483647 f) : TcI E yX6_keep cX6_keep 2 .int ({ frames := 3, cells := 0, slots := 0, locals := 82 }) [.ref a0, .int a1] (fun H => TH E (tbC (dayD (.inl (0, 18))) (dayD (.inl (0, 18))) (riverD (.inl Fa1) (.inl Fb1) (.inl (0, 4)) 31 33 35 39 43 47) (riverD (.inl (a, a)) (.inl (b, b)) (.inl (0, 4)) 32 34 36 40 44 48) (rcD (.inl (t, t)) (.inr [27]) (.inr ks) (.inl (kb, kb))) rd tp A14F A14F A4F A4F A14F A14F (riverD (.inl Fa3) (.inl Fb3) (.inl (0, 4)) 3 8 3 41 45 49) (riverD (.inl Fa4) (.inl Fb4) (.inl (0, 4)) 3 8 3 42 46 50) ((.inr (.inl (0, 12, Pd1)))) (xD 12 D) (xD 12 D1) ((.inr (.inl (0, 12, Pd4)))) ((.inr (.inl (0, 12, Ps1)))) (xD 12 Kn) (xD 12 Kn1) ((.inr (.inl (0, 12, Ps4)))) ((.inr (.inl (0, 48, Pi1)))) (xD 48 Q) (xD 48 Q1) ((.inr (.inl (0, 48, Pi4))))) H) (fun v H => ∃ kb2 : Int, (0 ≤ kb2 ∧ kb2 ≤ 3 ∧ kb2 = kb - kb % 2 + 1) ∧ ∃ D2 : Nat → Int32, (ivP 12 (-2) 11 D2 ∧ ∀ j : Nat, j < 12 → D2 j = D j) ∧ ∃ Kn2 : Nat → Int32, (ivP 12 (-2147483648) 2147483647 Kn2 ∧ ∀ j : Nat, j < 12 → Kn2 j = Kn j) ∧ ∃ Q2 : Nat → Int32, (ivP 48 (-2147483648) 2147483647 Q2 ∧ ∀ j : Nat, j < 48 → Q2 j = Q j) ∧ ((-2147483648) ≤ v.toInt ∧ v.toInt ≤ 2147483647) ∧ TH E (tbC (dayD (.inl (0, 18))) (dayD (.inl (0, 18))) (riverD (.inl Fa1) (.inl Fb1) (.inl (0, 4)) 31 33 35 39 43 47) (riverD (.inl (a, a)) (.inl (b, b)) (.inl (0, 4)) 32 34 36 40 44 48) (rcD (.inl (t, t)) (.inr [27]) (.inr ks) (.inl (kb2, kb2))) rd tp A14F A14F A4F A4F A14F A14F (riverD (.inl (a, a)) (.inl (b, b)) (.inl (0, 4)) 3 8 3 41 45 49) (riverD (.inl Fa4) (.inl Fb4) (.inl (0, 4)) 3 8 3 42 46 50) ((.inr (.inl (0, 12, Pd1)))) (xD 12 D) (xD 12 D2) ((.inr (.inl (0, 12, Pd4)))) ((.inr (.inl (0, 12, Ps1)))) (xD 12 Kn) (xD 12 Kn2) ((.inr (.inl (0, 12, Ps4)))) ((.inr (.inl (0, 48, Pi1)))) (xD 48 Q) (xD 48 Q2) ((.inr (.inl (0, 48, Pi4))))) H) := by
  refine teI (by decide) (Nat.le_of_ble_eq_true rfl) ?_
  intro p_ ev_ s mi_ below_ meth cd_ ls F hK hN hO hH hS hl
  have hH : TH E (tbC (dayD (.inl (0, 18))) (dayD (.inl (0, 18))) (riverD (.inl Fa1) (.inl Fb1) (.inl (0, 4)) 31 33 35 39 43 47) (riverD (.inl (a, a)) (.inl (b, b)) (.inl (0, 4)) 32 34 36 40 44 48) (rcD (.inl (t, t)) (.inr [27]) (.inr ks) (.inl (kb, kb))) rd tp A14F A14F A4F A4F A14F A14F (riverD (.inl Fa3) (.inl Fb3) (.inl (0, 4)) 3 8 3 41 45 49) (riverD (.inl Fa4) (.inl Fb4) (.inl (0, 4)) 3 8 3 42 46 50) ((.inr (.inl (0, 12, Pd1)))) (xD 12 D) (xD 12 D1) ((.inr (.inl (0, 12, Pd4)))) ((.inr (.inl (0, 12, Ps1)))) (xD 12 Kn) (xD 12 Kn1) ((.inr (.inl (0, 12, Ps4)))) ((.inr (.inl (0, 48, Pi1)))) (xD 48 Q) (xD 48 Q1) ((.inr (.inl (0, 48, Pi4))))) s.heap := hH
  have hl : lv_has ls 2 [(0, .ref a0), (1, .int a1)] := hl
  refine lv_iload_n F.1 F.2.1 dX6_keep_0 rfl (lv_at hl 1 rfl) ?_
  refine z_lt (tgt := 9) F dX6_keep_1 (by decide) (fun c_1 => absurd c_1 (by omega)) (fun c_1 => ?_)
  refine lv_iload_n F.1 F.2.1 dX6_keep_4 rfl (lv_at hl 1 rfl) ?_
  refine lv_iconst (v := 2) F.1 F.2.1 dX6_keep_5 (by decide) ?_
  refine topK (a := 2) (by decide) (fun k_2 hk_2 => ?_)
  refine b_lt (tgt := 11) F dX6_keep_6 (by decide) (fun c_3 => ?_) (fun c_3 => absurd c_3 (by omega))
  refine lv_aload_n F.1 F.2.1 dX6_keep_11 rfl (lv_at hl 0 rfl) ?_
  refine tGetR (j := 8) F hK hH (tyb ha0 (all1 rfl)) rfl (all1 rfl) clX6 (by decide) wd_2_0 dX6_keep_12 (fun q_4 hq_4 _ => ?_)
  refine lv_iload_n F.1 F.2.1 dX6_keep_15 rfl (lv_at hl 1 rfl) ?_
  refine tAald0 F hK hH (tyb hq_4 (all1 rfl)) rfl (ixb (n := 2) ha1 rfl rfl) dX6_keep_16 (fun q_5 hq_5 => ?_)
  have hq_5 : eT E q_5 ∈ [37] := by have h9_ := hq_5; rw [show (a1).toNatClampNeg = 0 from by show (a1).toInt.toNat = _; omega] at h9_; exact h9_
  refine lv_aload_n F.1 F.2.1 dX6_keep_17 rfl (lv_at hl 0 rfl) ?_
  refine tGetR (j := 2) F hK hH (tyb ha0 (all1 rfl)) rfl (all1 rfl) clX6 (by decide) wd_1_17 dX6_keep_18 (fun q_6 hq_6 _ => ?_)
  refine tVv (b := q_5) (As := [.ref q_6]) (rest := []) F hK hN hO (c_X2_copyOfx_37_27 E (dayD (.inl (0, 18))) (dayD (.inl (0, 18))) (riverD (.inl Fa1) (.inl Fb1) (.inl (0, 4)) 31 33 35 39 43 47) (rcD (.inl (t, t)) (.inr [27]) (.inr ks) (.inl (kb, kb))) rd tp (riverD (.inl Fa4) (.inl Fb4) (.inl (0, 4)) 3 8 3 42 46 50) ((.inr (.inl (0, 12, Pd1)))) ((.inr (.inl (0, 12, Pd4)))) ((.inr (.inl (0, 12, Ps1)))) ((.inr (.inl (0, 12, Ps4)))) ((.inr (.inl (0, 48, Pi1)))) ((.inr (.inl (0, 48, Pi4)))) Fa3 Fb3 a b D D1 Kn Kn1 Q Q1 q_5 q_6 hq_5 hq_6 (by omega) (by omega) hD hD1 hKn hKn1 hQ hQ1 hFa3 hFb3) mv_X2_copyOf wd_39_1 ⟨Nat.le_of_ble_eq_true rfl, Nat.le_of_ble_eq_true rfl⟩ ⟨Nat.le_of_ble_eq_true rfl, Nat.le_of_ble_eq_true rfl⟩ hH hS (tRecv hK hH (tyb hq_5 (all1 rfl)) clX2) rfl hl.1 (Nat.le_of_ble_eq_true rfl) dX6_keep_21 (fun H locs hq hS => ?_)
  obtain ⟨g_8, hg_8, g_9, hg_9, g_10, hg_10, hH⟩ := hq
  have hH : TH E (tbC (dayD (.inl (0, 18))) (dayD (.inl (0, 18))) (riverD (.inl Fa1) (.inl Fb1) (.inl (0, 4)) 31 33 35 39 43 47) (riverD (.inl (a, a)) (.inl (b, b)) (.inl (0, 4)) 32 34 36 40 44 48) (rcD (.inl (t, t)) (.inr [27]) (.inr ks) (.inl (kb, kb))) rd tp A14F A14F A4F A4F A14F A14F (riverD (.inl (a, a)) (.inl (b, b)) (.inl (0, 4)) 3 8 3 41 45 49) (riverD (.inl Fa4) (.inl Fb4) (.inl (0, 4)) 3 8 3 42 46 50) ((.inr (.inl (0, 12, Pd1)))) (xD 12 D) (xD 12 g_8) ((.inr (.inl (0, 12, Pd4)))) ((.inr (.inl (0, 12, Ps1)))) (xD 12 Kn) (xD 12 g_9) ((.inr (.inl (0, 12, Ps4)))) ((.inr (.inl (0, 48, Pi1)))) (xD 48 Q) (xD 48 g_10) ((.inr (.inl (0, 48, Pi4))))) H := hH
  refine lv_aload_n F.1 F.2.1 dX6_keep_24 rfl (lv_at hl 0 rfl) ?_
  refine tGetR (j := 9) F hK hH (tyb ha0 (all1 rfl)) rfl (all1 rfl) clX6 (by decide) wd_2_1 dX6_keep_25 (fun q_11 hq_11 _ => ?_)
  refine lv_iload_n F.1 F.2.1 dX6_keep_28 rfl (lv_at hl 1 rfl) ?_
  refine tAald F hK hH (tyb hq_11 (all1 rfl)) rfl (all1 rfl) (ixb (n := 2) ha1 rfl rfl) dX6_keep_29 (fun q_12 hq_12 _ => ?_)
  refine lv_aload_n F.1 F.2.1 dX6_keep_30 rfl (lv_at hl 0 rfl) ?_
  refine tGetR (j := 4) F hK hH (tyb ha0 (all1 rfl)) rfl (all1 rfl) clX6 (by decide) wd_1_22 dX6_keep_31 (fun q_13 hq_13 _ => ?_)
  refine tVv (b := q_12) (As := [.ref q_13]) (rest := []) F hK hN hO (c_X5_copyOf E (dayD (.inl (0, 18))) (dayD (.inl (0, 18))) (riverD (.inl Fa1) (.inl Fb1) (.inl (0, 4)) 31 33 35 39 43 47) (riverD (.inl (a, a)) (.inl (b, b)) (.inl (0, 4)) 32 34 36 40 44 48) (rcD (.inl (t, t)) (.inr [27]) (.inr ks) (.inl (kb, kb))) rd tp A14F A14F A4F A4F A14F A14F (riverD (.inl (a, a)) (.inl (b, b)) (.inl (0, 4)) 3 8 3 41 45 49) (riverD (.inl Fa4) (.inl Fb4) (.inl (0, 4)) 3 8 3 42 46 50) ((.inr (.inl (0, 12, Pd1)))) (xD 12 D) (xD 12 g_8) ((.inr (.inl (0, 12, Pd4)))) ((.inr (.inl (0, 12, Ps1)))) (xD 12 Kn) (xD 12 g_9) ((.inr (.inl (0, 12, Ps4)))) ((.inr (.inl (0, 48, Pi1)))) (xD 48 Q) (xD 48 g_10) ((.inr (.inl (0, 48, Pi4)))) q_12 q_13 hq_12 hq_13) mv_X5_copyOf wd_19_18 ⟨Nat.le_of_ble_eq_true rfl, Nat.le_of_ble_eq_true rfl⟩ ⟨Nat.le_of_ble_eq_true rfl, Nat.le_of_ble_eq_true rfl⟩ hH hS (tRecv hK hH (tyb hq_12 (all1 rfl)) clX5) rfl hl.1 (Nat.le_of_ble_eq_true rfl) dX6_keep_34 (fun H locs hq hS => ?_)
  have hH := hq
  have hH : TH E (tbC (dayD (.inl (0, 18))) (dayD (.inl (0, 18))) (riverD (.inl Fa1) (.inl Fb1) (.inl (0, 4)) 31 33 35 39 43 47) (riverD (.inl (a, a)) (.inl (b, b)) (.inl (0, 4)) 32 34 36 40 44 48) (rcD (.inl (t, t)) (.inr [27]) (.inr ks) (.inl (kb, kb))) rd tp A14F A14F A4F A4F A14F A14F (riverD (.inl (a, a)) (.inl (b, b)) (.inl (0, 4)) 3 8 3 41 45 49) (riverD (.inl Fa4) (.inl Fb4) (.inl (0, 4)) 3 8 3 42 46 50) ((.inr (.inl (0, 12, Pd1)))) (xD 12 D) (xD 12 g_8) ((.inr (.inl (0, 12, Pd4)))) ((.inr (.inl (0, 12, Ps1)))) (xD 12 Kn) (xD 12 g_9) ((.inr (.inl (0, 12, Ps4)))) ((.inr (.inl (0, 48, Pi1)))) (xD 48 Q) (xD 48 g_10) ((.inr (.inl (0, 48, Pi4))))) H := hH
  refine lv_aload_n F.1 F.2.1 dX6_keep_37 rfl (lv_at hl 0 rfl) ?_
  refine lv_dup F.1 F.2.1 dX6_keep_38 rfl ?_
  refine tGetI (j := 10) F hK hH (tyb ha0 (all1 rfl)) rfl clX6 (by decide) wd_39_0 dX6_keep_39 (fun z_15 hz_15 => ?_)
  have ez_15 : 0 ≤ z_15.toInt ∧ z_15.toInt ≤ 3 := by omega
  refine lv_iconst (v := 1) F.1 F.2.1 dX6_keep_42 (by decide) ?_
  refine topK (a := 1) (by decide) (fun k_16 hk_16 => ?_)
  refine lv_iload_n F.1 F.2.1 dX6_keep_43 rfl (lv_at hl 1 rfl) ?_
  refine lv_ishl F.1 F.2.1 dX6_keep_44 ?_
  refine topE (fun z_17 xz_17 => ?_)
  refine lv_ior F.1 F.2.1 dX6_keep_45 ?_
  refine topE (fun z_18 xz_18 => ?_)
  have qz_18 := kb_set0 xz_18 xz_17 (kb := kb) (by omega) (by omega) (by omega) (by omega)
  have bz_18 : 0 ≤ z_18.toInt ∧ z_18.toInt ≤ 3 := by omega
  obtain ⟨g_19, hg_19⟩ : ∃ y : Int, z_18.toInt = y := ⟨_, rfl⟩
  have bg_19 : 0 ≤ g_19 ∧ g_19 ≤ 3 := by rw [← hg_19]; exact bz_18
  refine tPutG (j := 10) (t := 28) (fd := (.inl (g_19, g_19))) F hK hH hS (List.mem_singleton.mp ha0) (by decide) rfl rfl (fdI (by omega)) (TB1 := (tbC (dayD (.inl (0, 18))) (dayD (.inl (0, 18))) (riverD (.inl Fa1) (.inl Fb1) (.inl (0, 4)) 31 33 35 39 43 47) (riverD (.inl (a, a)) (.inl (b, b)) (.inl (0, 4)) 32 34 36 40 44 48) (rcD (.inl (t, t)) (.inr [27]) (.inr ks) (.inl (g_19, g_19))) rd tp A14F A14F A4F A4F A14F A14F (riverD (.inl (a, a)) (.inl (b, b)) (.inl (0, 4)) 3 8 3 41 45 49) (riverD (.inl Fa4) (.inl Fb4) (.inl (0, 4)) 3 8 3 42 46 50) ((.inr (.inl (0, 12, Pd1)))) (xD 12 D) (xD 12 g_8) ((.inr (.inl (0, 12, Pd4)))) ((.inr (.inl (0, 12, Ps1)))) (xD 12 Kn) (xD 12 g_9) ((.inr (.inl (0, 12, Ps4)))) ((.inr (.inl (0, 48, Pi1)))) (xD 48 Q) (xD 48 g_10) ((.inr (.inl (0, 48, Pi4)))))) rfl clX6 (by decide) wd_39_0 rfl rfl rfl rfl dX6_keep_46 (fun H locs hH hS => ?_)
  refine lv_aload_n F.1 F.2.1 dX6_keep_49 rfl (lv_at hl 0 rfl) ?_
  refine tGetR (j := 4) F hK hH (tyb ha0 (all1 rfl)) rfl (all1 rfl) clX6 (by decide) wd_1_22 dX6_keep_50 (fun q_20 hq_20 _ => ?_)
  refine tGetI (j := 0) F hK hH (tyb hq_20 (all1 rfl)) rfl clX5 (by decide) wd_19_12 dX6_keep_53 (fun z_21 hz_21 => ?_)
  exact txI F hS dX6_keep_56 rfl (⟨g_19, ⟨by omega, by omega, by omega⟩, g_8, ⟨hg_8.1, hg_8.2⟩, g_9, ⟨hg_9.1, hg_9.2⟩, g_10, ⟨hg_10.1, hg_10.2⟩, (wkb hz_21 rfl rfl), hH⟩)
set_option maxHeartbeats 4000000 in
set_option maxRecDepth 100000 in
theorem c_X6_keepx_1_1 (E : Ev) (rd : TD) (tp : TD) (Fa2 : Int × Int) (Fb2 : Int × Int) (Fa3 : Int × Int) (Fb3 : Int × Int) (Fa4 : Int × Int) (Fb4 : Int × Int) (ks : List Nat) (Pd2 : (Nat → Int32) → Prop) (Pd3 : (Nat → Int32) → Prop) (Ps2 : (Nat → Int32) → Prop) (Ps3 : (Nat → Int32) → Prop) (Pi2 : (Nat → Int32) → Prop) (Pi3 : (Nat → Int32) → Prop) (a : Int) (b : Int) (t : Int) (kb : Int) (D : Nat → Int32) (D1 : Nat → Int32) (Kn : Nat → Int32) (Kn1 : Nat → Int32) (Q : Nat → Int32) (Q1 : Nat → Int32) (a0 : Nat) (a1 : Int32) (ha0 : eT E a0 ∈ [28]) (ha1 : 1 ≤ a1.toInt ∧ a1.toInt ≤ 1) (ha : 0 ≤ a ∧ a ≤ 12) (hb : 0 ≤ b ∧ b ≤ 14) (ht : 0 ≤ t ∧ t ≤ 400) (hkb : 0 ≤ kb ∧ kb ≤ 3) (hD : ivP 12 (-2) 11 D) (hD1 : ivP 12 (-2) 11 D1) (hKn : ivP 12 (-2147483648) 2147483647 Kn) (hKn1 : ivP 12 (-2147483648) 2147483647 Kn1) (hQ : ivP 48 (-2147483648) 2147483647 Q) (hQ1 : ivP 48 (-2147483648) 2147483647 Q1) (hFa2 : 0 ≤ Fa2.1 ∧ Fa2.2 ≤ 12) (hFb2 : 0 ≤ Fb2.1 ∧ Fb2.2 ≤ 14) (hFa3 : 0 ≤ Fa3.1 ∧ Fa3.2 ≤ 12) (hFb3 : 0 ≤ Fb3.1 ∧ Fb3.2 ≤ 14) (hFa4 : 0 ≤ Fa4.1 ∧ Fa4.2 ≤ 12) (hFb4 : 0 ≤ Fb4.1 ∧ Fb4.2 ≤ 14) (hks : ∀ t ∈ ks, t ∈ [26, 27]) (hPd2 : ∀ f, Pd2 f → ivP 12 (-2) 11 f) (hPd3 : ∀ f, Pd3 f → ivP 12 (-2) 11 f) (hPs2 : ∀ f, Ps2 f → ivP 12 (-2147483648) 2147483647 f) (hPs3 : ∀ f, Ps3 f → ivP 12 (-2147483648) 2147483647 f) (hPi2 : ∀ f, Pi2 f → ivP 48 (-2147483648) 2147483647 f) (hPi3 : ∀ f, Pi3 f → ivP 48 (-2147483648) 2147483647 f) : TcI E yX6_keep cX6_keep 2 .int ({ frames := 3, cells := 0, slots := 0, locals := 82 }) [.ref a0, .int a1] (fun H => TH E (tbC (dayD (.inl (0, 18))) (dayD (.inl (0, 18))) (riverD (.inl (a, a)) (.inl (b, b)) (.inl (0, 4)) 31 33 35 39 43 47) (riverD (.inl Fa2) (.inl Fb2) (.inl (0, 4)) 32 34 36 40 44 48) (rcD (.inl (t, t)) (.inr [26]) (.inr ks) (.inl (kb, kb))) rd tp A14F A14F A4F A4F A14F A14F (riverD (.inl Fa3) (.inl Fb3) (.inl (0, 4)) 3 8 3 41 45 49) (riverD (.inl Fa4) (.inl Fb4) (.inl (0, 4)) 3 8 3 42 46 50) (xD 12 D) ((.inr (.inl (0, 12, Pd2)))) ((.inr (.inl (0, 12, Pd3)))) (xD 12 D1) (xD 12 Kn) ((.inr (.inl (0, 12, Ps2)))) ((.inr (.inl (0, 12, Ps3)))) (xD 12 Kn1) (xD 48 Q) ((.inr (.inl (0, 48, Pi2)))) ((.inr (.inl (0, 48, Pi3)))) (xD 48 Q1)) H) (fun v H => ∃ kb2 : Int, (0 ≤ kb2 ∧ kb2 ≤ 3 ∧ kb2 = kb % 2 + 2) ∧ ∃ D2 : Nat → Int32, (ivP 12 (-2) 11 D2 ∧ ∀ j : Nat, j < 12 → D2 j = D j) ∧ ∃ Kn2 : Nat → Int32, (ivP 12 (-2147483648) 2147483647 Kn2 ∧ ∀ j : Nat, j < 12 → Kn2 j = Kn j) ∧ ∃ Q2 : Nat → Int32, (ivP 48 (-2147483648) 2147483647 Q2 ∧ ∀ j : Nat, j < 48 → Q2 j = Q j) ∧ ((-2147483648) ≤ v.toInt ∧ v.toInt ≤ 2147483647) ∧ TH E (tbC (dayD (.inl (0, 18))) (dayD (.inl (0, 18))) (riverD (.inl (a, a)) (.inl (b, b)) (.inl (0, 4)) 31 33 35 39 43 47) (riverD (.inl Fa2) (.inl Fb2) (.inl (0, 4)) 32 34 36 40 44 48) (rcD (.inl (t, t)) (.inr [26]) (.inr ks) (.inl (kb2, kb2))) rd tp A14F A14F A4F A4F A14F A14F (riverD (.inl Fa3) (.inl Fb3) (.inl (0, 4)) 3 8 3 41 45 49) (riverD (.inl (a, a)) (.inl (b, b)) (.inl (0, 4)) 3 8 3 42 46 50) (xD 12 D) ((.inr (.inl (0, 12, Pd2)))) ((.inr (.inl (0, 12, Pd3)))) (xD 12 D2) (xD 12 Kn) ((.inr (.inl (0, 12, Ps2)))) ((.inr (.inl (0, 12, Ps3)))) (xD 12 Kn2) (xD 48 Q) ((.inr (.inl (0, 48, Pi2)))) ((.inr (.inl (0, 48, Pi3)))) (xD 48 Q2)) H) := by
  refine teI (by decide) (Nat.le_of_ble_eq_true rfl) ?_
  intro p_ ev_ s mi_ below_ meth cd_ ls F hK hN hO hH hS hl
  have hH : TH E (tbC (dayD (.inl (0, 18))) (dayD (.inl (0, 18))) (riverD (.inl (a, a)) (.inl (b, b)) (.inl (0, 4)) 31 33 35 39 43 47) (riverD (.inl Fa2) (.inl Fb2) (.inl (0, 4)) 32 34 36 40 44 48) (rcD (.inl (t, t)) (.inr [26]) (.inr ks) (.inl (kb, kb))) rd tp A14F A14F A4F A4F A14F A14F (riverD (.inl Fa3) (.inl Fb3) (.inl (0, 4)) 3 8 3 41 45 49) (riverD (.inl Fa4) (.inl Fb4) (.inl (0, 4)) 3 8 3 42 46 50) (xD 12 D) ((.inr (.inl (0, 12, Pd2)))) ((.inr (.inl (0, 12, Pd3)))) (xD 12 D1) (xD 12 Kn) ((.inr (.inl (0, 12, Ps2)))) ((.inr (.inl (0, 12, Ps3)))) (xD 12 Kn1) (xD 48 Q) ((.inr (.inl (0, 48, Pi2)))) ((.inr (.inl (0, 48, Pi3)))) (xD 48 Q1)) s.heap := hH
  have hl : lv_has ls 2 [(0, .ref a0), (1, .int a1)] := hl
  refine lv_iload_n F.1 F.2.1 dX6_keep_0 rfl (lv_at hl 1 rfl) ?_
  refine z_lt (tgt := 9) F dX6_keep_1 (by decide) (fun c_1 => absurd c_1 (by omega)) (fun c_1 => ?_)
  refine lv_iload_n F.1 F.2.1 dX6_keep_4 rfl (lv_at hl 1 rfl) ?_
  refine lv_iconst (v := 2) F.1 F.2.1 dX6_keep_5 (by decide) ?_
  refine topK (a := 2) (by decide) (fun k_2 hk_2 => ?_)
  refine b_lt (tgt := 11) F dX6_keep_6 (by decide) (fun c_3 => ?_) (fun c_3 => absurd c_3 (by omega))
  refine lv_aload_n F.1 F.2.1 dX6_keep_11 rfl (lv_at hl 0 rfl) ?_
  refine tGetR (j := 8) F hK hH (tyb ha0 (all1 rfl)) rfl (all1 rfl) clX6 (by decide) wd_2_0 dX6_keep_12 (fun q_4 hq_4 _ => ?_)
  refine lv_iload_n F.1 F.2.1 dX6_keep_15 rfl (lv_at hl 1 rfl) ?_
  refine tAald0 F hK hH (tyb hq_4 (all1 rfl)) rfl (ixb (n := 2) ha1 rfl rfl) dX6_keep_16 (fun q_5 hq_5 => ?_)
  have hq_5 : eT E q_5 ∈ [38] := by have h9_ := hq_5; rw [show (a1).toNatClampNeg = 1 from by show (a1).toInt.toNat = _; omega] at h9_; exact h9_
  refine lv_aload_n F.1 F.2.1 dX6_keep_17 rfl (lv_at hl 0 rfl) ?_
  refine tGetR (j := 2) F hK hH (tyb ha0 (all1 rfl)) rfl (all1 rfl) clX6 (by decide) wd_1_17 dX6_keep_18 (fun q_6 hq_6 _ => ?_)
  refine tVv (b := q_5) (As := [.ref q_6]) (rest := []) F hK hN hO (c_X2_copyOfx_38_26 E (dayD (.inl (0, 18))) (dayD (.inl (0, 18))) (riverD (.inl Fa2) (.inl Fb2) (.inl (0, 4)) 32 34 36 40 44 48) (rcD (.inl (t, t)) (.inr [26]) (.inr ks) (.inl (kb, kb))) rd tp (riverD (.inl Fa3) (.inl Fb3) (.inl (0, 4)) 3 8 3 41 45 49) ((.inr (.inl (0, 12, Pd2)))) ((.inr (.inl (0, 12, Pd3)))) ((.inr (.inl (0, 12, Ps2)))) ((.inr (.inl (0, 12, Ps3)))) ((.inr (.inl (0, 48, Pi2)))) ((.inr (.inl (0, 48, Pi3)))) Fa4 Fb4 a b D D1 Kn Kn1 Q Q1 q_5 q_6 hq_5 hq_6 (by omega) (by omega) hD hD1 hKn hKn1 hQ hQ1 hFa4 hFb4) mv_X2_copyOf wd_39_1 ⟨Nat.le_of_ble_eq_true rfl, Nat.le_of_ble_eq_true rfl⟩ ⟨Nat.le_of_ble_eq_true rfl, Nat.le_of_ble_eq_true rfl⟩ hH hS (tRecv hK hH (tyb hq_5 (all1 rfl)) clX2) rfl hl.1 (Nat.le_of_ble_eq_true rfl) dX6_keep_21 (fun H locs hq hS => ?_)
  obtain ⟨g_8, hg_8, g_9, hg_9, g_10, hg_10, hH⟩ := hq
  have hH : TH E (tbC (dayD (.inl (0, 18))) (dayD (.inl (0, 18))) (riverD (.inl (a, a)) (.inl (b, b)) (.inl (0, 4)) 31 33 35 39 43 47) (riverD (.inl Fa2) (.inl Fb2) (.inl (0, 4)) 32 34 36 40 44 48) (rcD (.inl (t, t)) (.inr [26]) (.inr ks) (.inl (kb, kb))) rd tp A14F A14F A4F A4F A14F A14F (riverD (.inl Fa3) (.inl Fb3) (.inl (0, 4)) 3 8 3 41 45 49) (riverD (.inl (a, a)) (.inl (b, b)) (.inl (0, 4)) 3 8 3 42 46 50) (xD 12 D) ((.inr (.inl (0, 12, Pd2)))) ((.inr (.inl (0, 12, Pd3)))) (xD 12 g_8) (xD 12 Kn) ((.inr (.inl (0, 12, Ps2)))) ((.inr (.inl (0, 12, Ps3)))) (xD 12 g_9) (xD 48 Q) ((.inr (.inl (0, 48, Pi2)))) ((.inr (.inl (0, 48, Pi3)))) (xD 48 g_10)) H := hH
  refine lv_aload_n F.1 F.2.1 dX6_keep_24 rfl (lv_at hl 0 rfl) ?_
  refine tGetR (j := 9) F hK hH (tyb ha0 (all1 rfl)) rfl (all1 rfl) clX6 (by decide) wd_2_1 dX6_keep_25 (fun q_11 hq_11 _ => ?_)
  refine lv_iload_n F.1 F.2.1 dX6_keep_28 rfl (lv_at hl 1 rfl) ?_
  refine tAald F hK hH (tyb hq_11 (all1 rfl)) rfl (all1 rfl) (ixb (n := 2) ha1 rfl rfl) dX6_keep_29 (fun q_12 hq_12 _ => ?_)
  refine lv_aload_n F.1 F.2.1 dX6_keep_30 rfl (lv_at hl 0 rfl) ?_
  refine tGetR (j := 4) F hK hH (tyb ha0 (all1 rfl)) rfl (all1 rfl) clX6 (by decide) wd_1_22 dX6_keep_31 (fun q_13 hq_13 _ => ?_)
  refine tVv (b := q_12) (As := [.ref q_13]) (rest := []) F hK hN hO (c_X5_copyOf E (dayD (.inl (0, 18))) (dayD (.inl (0, 18))) (riverD (.inl (a, a)) (.inl (b, b)) (.inl (0, 4)) 31 33 35 39 43 47) (riverD (.inl Fa2) (.inl Fb2) (.inl (0, 4)) 32 34 36 40 44 48) (rcD (.inl (t, t)) (.inr [26]) (.inr ks) (.inl (kb, kb))) rd tp A14F A14F A4F A4F A14F A14F (riverD (.inl Fa3) (.inl Fb3) (.inl (0, 4)) 3 8 3 41 45 49) (riverD (.inl (a, a)) (.inl (b, b)) (.inl (0, 4)) 3 8 3 42 46 50) (xD 12 D) ((.inr (.inl (0, 12, Pd2)))) ((.inr (.inl (0, 12, Pd3)))) (xD 12 g_8) (xD 12 Kn) ((.inr (.inl (0, 12, Ps2)))) ((.inr (.inl (0, 12, Ps3)))) (xD 12 g_9) (xD 48 Q) ((.inr (.inl (0, 48, Pi2)))) ((.inr (.inl (0, 48, Pi3)))) (xD 48 g_10) q_12 q_13 hq_12 hq_13) mv_X5_copyOf wd_19_18 ⟨Nat.le_of_ble_eq_true rfl, Nat.le_of_ble_eq_true rfl⟩ ⟨Nat.le_of_ble_eq_true rfl, Nat.le_of_ble_eq_true rfl⟩ hH hS (tRecv hK hH (tyb hq_12 (all1 rfl)) clX5) rfl hl.1 (Nat.le_of_ble_eq_true rfl) dX6_keep_34 (fun H locs hq hS => ?_)
  have hH := hq
  have hH : TH E (tbC (dayD (.inl (0, 18))) (dayD (.inl (0, 18))) (riverD (.inl (a, a)) (.inl (b, b)) (.inl (0, 4)) 31 33 35 39 43 47) (riverD (.inl Fa2) (.inl Fb2) (.inl (0, 4)) 32 34 36 40 44 48) (rcD (.inl (t, t)) (.inr [26]) (.inr ks) (.inl (kb, kb))) rd tp A14F A14F A4F A4F A14F A14F (riverD (.inl Fa3) (.inl Fb3) (.inl (0, 4)) 3 8 3 41 45 49) (riverD (.inl (a, a)) (.inl (b, b)) (.inl (0, 4)) 3 8 3 42 46 50) (xD 12 D) ((.inr (.inl (0, 12, Pd2)))) ((.inr (.inl (0, 12, Pd3)))) (xD 12 g_8) (xD 12 Kn) ((.inr (.inl (0, 12, Ps2)))) ((.inr (.inl (0, 12, Ps3)))) (xD 12 g_9) (xD 48 Q) ((.inr (.inl (0, 48, Pi2)))) ((.inr (.inl (0, 48, Pi3)))) (xD 48 g_10)) H := hH
  refine lv_aload_n F.1 F.2.1 dX6_keep_37 rfl (lv_at hl 0 rfl) ?_
  refine lv_dup F.1 F.2.1 dX6_keep_38 rfl ?_
  refine tGetI (j := 10) F hK hH (tyb ha0 (all1 rfl)) rfl clX6 (by decide) wd_39_0 dX6_keep_39 (fun z_15 hz_15 => ?_)
  have ez_15 : 0 ≤ z_15.toInt ∧ z_15.toInt ≤ 3 := by omega
  refine lv_iconst (v := 1) F.1 F.2.1 dX6_keep_42 (by decide) ?_
  refine topK (a := 1) (by decide) (fun k_16 hk_16 => ?_)
  refine lv_iload_n F.1 F.2.1 dX6_keep_43 rfl (lv_at hl 1 rfl) ?_
  refine lv_ishl F.1 F.2.1 dX6_keep_44 ?_
  refine topE (fun z_17 xz_17 => ?_)
  refine lv_ior F.1 F.2.1 dX6_keep_45 ?_
  refine topE (fun z_18 xz_18 => ?_)
  have qz_18 := kb_set1 xz_18 xz_17 (kb := kb) (by omega) (by omega) (by omega) (by omega)
  have bz_18 : 0 ≤ z_18.toInt ∧ z_18.toInt ≤ 3 := by omega
  obtain ⟨g_19, hg_19⟩ : ∃ y : Int, z_18.toInt = y := ⟨_, rfl⟩
  have bg_19 : 0 ≤ g_19 ∧ g_19 ≤ 3 := by rw [← hg_19]; exact bz_18
  refine tPutG (j := 10) (t := 28) (fd := (.inl (g_19, g_19))) F hK hH hS (List.mem_singleton.mp ha0) (by decide) rfl rfl (fdI (by omega)) (TB1 := (tbC (dayD (.inl (0, 18))) (dayD (.inl (0, 18))) (riverD (.inl (a, a)) (.inl (b, b)) (.inl (0, 4)) 31 33 35 39 43 47) (riverD (.inl Fa2) (.inl Fb2) (.inl (0, 4)) 32 34 36 40 44 48) (rcD (.inl (t, t)) (.inr [26]) (.inr ks) (.inl (g_19, g_19))) rd tp A14F A14F A4F A4F A14F A14F (riverD (.inl Fa3) (.inl Fb3) (.inl (0, 4)) 3 8 3 41 45 49) (riverD (.inl (a, a)) (.inl (b, b)) (.inl (0, 4)) 3 8 3 42 46 50) (xD 12 D) ((.inr (.inl (0, 12, Pd2)))) ((.inr (.inl (0, 12, Pd3)))) (xD 12 g_8) (xD 12 Kn) ((.inr (.inl (0, 12, Ps2)))) ((.inr (.inl (0, 12, Ps3)))) (xD 12 g_9) (xD 48 Q) ((.inr (.inl (0, 48, Pi2)))) ((.inr (.inl (0, 48, Pi3)))) (xD 48 g_10))) rfl clX6 (by decide) wd_39_0 rfl rfl rfl rfl dX6_keep_46 (fun H locs hH hS => ?_)
  refine lv_aload_n F.1 F.2.1 dX6_keep_49 rfl (lv_at hl 0 rfl) ?_
  refine tGetR (j := 4) F hK hH (tyb ha0 (all1 rfl)) rfl (all1 rfl) clX6 (by decide) wd_1_22 dX6_keep_50 (fun q_20 hq_20 _ => ?_)
  refine tGetI (j := 0) F hK hH (tyb hq_20 (all1 rfl)) rfl clX5 (by decide) wd_19_12 dX6_keep_53 (fun z_21 hz_21 => ?_)
  exact txI F hS dX6_keep_56 rfl (⟨g_19, ⟨by omega, by omega, by omega⟩, g_8, ⟨hg_8.1, hg_8.2⟩, g_9, ⟨hg_9.1, hg_9.2⟩, g_10, ⟨hg_10.1, hg_10.2⟩, (wkb hz_21 rfl rfl), hH⟩)
set_option maxHeartbeats 4000000 in
set_option maxRecDepth 100000 in
theorem c_X6_keepx_1_2 (E : Ev) (rd : TD) (tp : TD) (Fa1 : Int × Int) (Fb1 : Int × Int) (Fa3 : Int × Int) (Fb3 : Int × Int) (Fa4 : Int × Int) (Fb4 : Int × Int) (ks : List Nat) (Pd1 : (Nat → Int32) → Prop) (Pd3 : (Nat → Int32) → Prop) (Ps1 : (Nat → Int32) → Prop) (Ps3 : (Nat → Int32) → Prop) (Pi1 : (Nat → Int32) → Prop) (Pi3 : (Nat → Int32) → Prop) (a : Int) (b : Int) (t : Int) (kb : Int) (D : Nat → Int32) (D1 : Nat → Int32) (Kn : Nat → Int32) (Kn1 : Nat → Int32) (Q : Nat → Int32) (Q1 : Nat → Int32) (a0 : Nat) (a1 : Int32) (ha0 : eT E a0 ∈ [28]) (ha1 : 1 ≤ a1.toInt ∧ a1.toInt ≤ 1) (ha : 0 ≤ a ∧ a ≤ 12) (hb : 0 ≤ b ∧ b ≤ 14) (ht : 0 ≤ t ∧ t ≤ 400) (hkb : 0 ≤ kb ∧ kb ≤ 3) (hD : ivP 12 (-2) 11 D) (hD1 : ivP 12 (-2) 11 D1) (hKn : ivP 12 (-2147483648) 2147483647 Kn) (hKn1 : ivP 12 (-2147483648) 2147483647 Kn1) (hQ : ivP 48 (-2147483648) 2147483647 Q) (hQ1 : ivP 48 (-2147483648) 2147483647 Q1) (hFa1 : 0 ≤ Fa1.1 ∧ Fa1.2 ≤ 12) (hFb1 : 0 ≤ Fb1.1 ∧ Fb1.2 ≤ 14) (hFa3 : 0 ≤ Fa3.1 ∧ Fa3.2 ≤ 12) (hFb3 : 0 ≤ Fb3.1 ∧ Fb3.2 ≤ 14) (hFa4 : 0 ≤ Fa4.1 ∧ Fa4.2 ≤ 12) (hFb4 : 0 ≤ Fb4.1 ∧ Fb4.2 ≤ 14) (hks : ∀ t ∈ ks, t ∈ [26, 27]) (hPd1 : ∀ f, Pd1 f → ivP 12 (-2) 11 f) (hPd3 : ∀ f, Pd3 f → ivP 12 (-2) 11 f) (hPs1 : ∀ f, Ps1 f → ivP 12 (-2147483648) 2147483647 f) (hPs3 : ∀ f, Ps3 f → ivP 12 (-2147483648) 2147483647 f) (hPi1 : ∀ f, Pi1 f → ivP 48 (-2147483648) 2147483647 f) (hPi3 : ∀ f, Pi3 f → ivP 48 (-2147483648) 2147483647 f) : TcI E yX6_keep cX6_keep 2 .int ({ frames := 3, cells := 0, slots := 0, locals := 82 }) [.ref a0, .int a1] (fun H => TH E (tbC (dayD (.inl (0, 18))) (dayD (.inl (0, 18))) (riverD (.inl Fa1) (.inl Fb1) (.inl (0, 4)) 31 33 35 39 43 47) (riverD (.inl (a, a)) (.inl (b, b)) (.inl (0, 4)) 32 34 36 40 44 48) (rcD (.inl (t, t)) (.inr [27]) (.inr ks) (.inl (kb, kb))) rd tp A14F A14F A4F A4F A14F A14F (riverD (.inl Fa3) (.inl Fb3) (.inl (0, 4)) 3 8 3 41 45 49) (riverD (.inl Fa4) (.inl Fb4) (.inl (0, 4)) 3 8 3 42 46 50) ((.inr (.inl (0, 12, Pd1)))) (xD 12 D) ((.inr (.inl (0, 12, Pd3)))) (xD 12 D1) ((.inr (.inl (0, 12, Ps1)))) (xD 12 Kn) ((.inr (.inl (0, 12, Ps3)))) (xD 12 Kn1) ((.inr (.inl (0, 48, Pi1)))) (xD 48 Q) ((.inr (.inl (0, 48, Pi3)))) (xD 48 Q1)) H) (fun v H => ∃ kb2 : Int, (0 ≤ kb2 ∧ kb2 ≤ 3 ∧ kb2 = kb % 2 + 2) ∧ ∃ D2 : Nat → Int32, (ivP 12 (-2) 11 D2 ∧ ∀ j : Nat, j < 12 → D2 j = D j) ∧ ∃ Kn2 : Nat → Int32, (ivP 12 (-2147483648) 2147483647 Kn2 ∧ ∀ j : Nat, j < 12 → Kn2 j = Kn j) ∧ ∃ Q2 : Nat → Int32, (ivP 48 (-2147483648) 2147483647 Q2 ∧ ∀ j : Nat, j < 48 → Q2 j = Q j) ∧ ((-2147483648) ≤ v.toInt ∧ v.toInt ≤ 2147483647) ∧ TH E (tbC (dayD (.inl (0, 18))) (dayD (.inl (0, 18))) (riverD (.inl Fa1) (.inl Fb1) (.inl (0, 4)) 31 33 35 39 43 47) (riverD (.inl (a, a)) (.inl (b, b)) (.inl (0, 4)) 32 34 36 40 44 48) (rcD (.inl (t, t)) (.inr [27]) (.inr ks) (.inl (kb2, kb2))) rd tp A14F A14F A4F A4F A14F A14F (riverD (.inl Fa3) (.inl Fb3) (.inl (0, 4)) 3 8 3 41 45 49) (riverD (.inl (a, a)) (.inl (b, b)) (.inl (0, 4)) 3 8 3 42 46 50) ((.inr (.inl (0, 12, Pd1)))) (xD 12 D) ((.inr (.inl (0, 12, Pd3)))) (xD 12 D2) ((.inr (.inl (0, 12, Ps1)))) (xD 12 Kn) ((.inr (.inl (0, 12, Ps3)))) (xD 12 Kn2) ((.inr (.inl (0, 48, Pi1)))) (xD 48 Q) ((.inr (.inl (0, 48, Pi3)))) (xD 48 Q2)) H) := by
  refine teI (by decide) (Nat.le_of_ble_eq_true rfl) ?_
  intro p_ ev_ s mi_ below_ meth cd_ ls F hK hN hO hH hS hl
  have hH : TH E (tbC (dayD (.inl (0, 18))) (dayD (.inl (0, 18))) (riverD (.inl Fa1) (.inl Fb1) (.inl (0, 4)) 31 33 35 39 43 47) (riverD (.inl (a, a)) (.inl (b, b)) (.inl (0, 4)) 32 34 36 40 44 48) (rcD (.inl (t, t)) (.inr [27]) (.inr ks) (.inl (kb, kb))) rd tp A14F A14F A4F A4F A14F A14F (riverD (.inl Fa3) (.inl Fb3) (.inl (0, 4)) 3 8 3 41 45 49) (riverD (.inl Fa4) (.inl Fb4) (.inl (0, 4)) 3 8 3 42 46 50) ((.inr (.inl (0, 12, Pd1)))) (xD 12 D) ((.inr (.inl (0, 12, Pd3)))) (xD 12 D1) ((.inr (.inl (0, 12, Ps1)))) (xD 12 Kn) ((.inr (.inl (0, 12, Ps3)))) (xD 12 Kn1) ((.inr (.inl (0, 48, Pi1)))) (xD 48 Q) ((.inr (.inl (0, 48, Pi3)))) (xD 48 Q1)) s.heap := hH
  have hl : lv_has ls 2 [(0, .ref a0), (1, .int a1)] := hl
  refine lv_iload_n F.1 F.2.1 dX6_keep_0 rfl (lv_at hl 1 rfl) ?_
  refine z_lt (tgt := 9) F dX6_keep_1 (by decide) (fun c_1 => absurd c_1 (by omega)) (fun c_1 => ?_)
  refine lv_iload_n F.1 F.2.1 dX6_keep_4 rfl (lv_at hl 1 rfl) ?_
  refine lv_iconst (v := 2) F.1 F.2.1 dX6_keep_5 (by decide) ?_
  refine topK (a := 2) (by decide) (fun k_2 hk_2 => ?_)
  refine b_lt (tgt := 11) F dX6_keep_6 (by decide) (fun c_3 => ?_) (fun c_3 => absurd c_3 (by omega))
  refine lv_aload_n F.1 F.2.1 dX6_keep_11 rfl (lv_at hl 0 rfl) ?_
  refine tGetR (j := 8) F hK hH (tyb ha0 (all1 rfl)) rfl (all1 rfl) clX6 (by decide) wd_2_0 dX6_keep_12 (fun q_4 hq_4 _ => ?_)
  refine lv_iload_n F.1 F.2.1 dX6_keep_15 rfl (lv_at hl 1 rfl) ?_
  refine tAald0 F hK hH (tyb hq_4 (all1 rfl)) rfl (ixb (n := 2) ha1 rfl rfl) dX6_keep_16 (fun q_5 hq_5 => ?_)
  have hq_5 : eT E q_5 ∈ [38] := by have h9_ := hq_5; rw [show (a1).toNatClampNeg = 1 from by show (a1).toInt.toNat = _; omega] at h9_; exact h9_
  refine lv_aload_n F.1 F.2.1 dX6_keep_17 rfl (lv_at hl 0 rfl) ?_
  refine tGetR (j := 2) F hK hH (tyb ha0 (all1 rfl)) rfl (all1 rfl) clX6 (by decide) wd_1_17 dX6_keep_18 (fun q_6 hq_6 _ => ?_)
  refine tVv (b := q_5) (As := [.ref q_6]) (rest := []) F hK hN hO (c_X2_copyOfx_38_27 E (dayD (.inl (0, 18))) (dayD (.inl (0, 18))) (riverD (.inl Fa1) (.inl Fb1) (.inl (0, 4)) 31 33 35 39 43 47) (rcD (.inl (t, t)) (.inr [27]) (.inr ks) (.inl (kb, kb))) rd tp (riverD (.inl Fa3) (.inl Fb3) (.inl (0, 4)) 3 8 3 41 45 49) ((.inr (.inl (0, 12, Pd1)))) ((.inr (.inl (0, 12, Pd3)))) ((.inr (.inl (0, 12, Ps1)))) ((.inr (.inl (0, 12, Ps3)))) ((.inr (.inl (0, 48, Pi1)))) ((.inr (.inl (0, 48, Pi3)))) Fa4 Fb4 a b D D1 Kn Kn1 Q Q1 q_5 q_6 hq_5 hq_6 (by omega) (by omega) hD hD1 hKn hKn1 hQ hQ1 hFa4 hFb4) mv_X2_copyOf wd_39_1 ⟨Nat.le_of_ble_eq_true rfl, Nat.le_of_ble_eq_true rfl⟩ ⟨Nat.le_of_ble_eq_true rfl, Nat.le_of_ble_eq_true rfl⟩ hH hS (tRecv hK hH (tyb hq_5 (all1 rfl)) clX2) rfl hl.1 (Nat.le_of_ble_eq_true rfl) dX6_keep_21 (fun H locs hq hS => ?_)
  obtain ⟨g_8, hg_8, g_9, hg_9, g_10, hg_10, hH⟩ := hq
  have hH : TH E (tbC (dayD (.inl (0, 18))) (dayD (.inl (0, 18))) (riverD (.inl Fa1) (.inl Fb1) (.inl (0, 4)) 31 33 35 39 43 47) (riverD (.inl (a, a)) (.inl (b, b)) (.inl (0, 4)) 32 34 36 40 44 48) (rcD (.inl (t, t)) (.inr [27]) (.inr ks) (.inl (kb, kb))) rd tp A14F A14F A4F A4F A14F A14F (riverD (.inl Fa3) (.inl Fb3) (.inl (0, 4)) 3 8 3 41 45 49) (riverD (.inl (a, a)) (.inl (b, b)) (.inl (0, 4)) 3 8 3 42 46 50) ((.inr (.inl (0, 12, Pd1)))) (xD 12 D) ((.inr (.inl (0, 12, Pd3)))) (xD 12 g_8) ((.inr (.inl (0, 12, Ps1)))) (xD 12 Kn) ((.inr (.inl (0, 12, Ps3)))) (xD 12 g_9) ((.inr (.inl (0, 48, Pi1)))) (xD 48 Q) ((.inr (.inl (0, 48, Pi3)))) (xD 48 g_10)) H := hH
  refine lv_aload_n F.1 F.2.1 dX6_keep_24 rfl (lv_at hl 0 rfl) ?_
  refine tGetR (j := 9) F hK hH (tyb ha0 (all1 rfl)) rfl (all1 rfl) clX6 (by decide) wd_2_1 dX6_keep_25 (fun q_11 hq_11 _ => ?_)
  refine lv_iload_n F.1 F.2.1 dX6_keep_28 rfl (lv_at hl 1 rfl) ?_
  refine tAald F hK hH (tyb hq_11 (all1 rfl)) rfl (all1 rfl) (ixb (n := 2) ha1 rfl rfl) dX6_keep_29 (fun q_12 hq_12 _ => ?_)
  refine lv_aload_n F.1 F.2.1 dX6_keep_30 rfl (lv_at hl 0 rfl) ?_
  refine tGetR (j := 4) F hK hH (tyb ha0 (all1 rfl)) rfl (all1 rfl) clX6 (by decide) wd_1_22 dX6_keep_31 (fun q_13 hq_13 _ => ?_)
  refine tVv (b := q_12) (As := [.ref q_13]) (rest := []) F hK hN hO (c_X5_copyOf E (dayD (.inl (0, 18))) (dayD (.inl (0, 18))) (riverD (.inl Fa1) (.inl Fb1) (.inl (0, 4)) 31 33 35 39 43 47) (riverD (.inl (a, a)) (.inl (b, b)) (.inl (0, 4)) 32 34 36 40 44 48) (rcD (.inl (t, t)) (.inr [27]) (.inr ks) (.inl (kb, kb))) rd tp A14F A14F A4F A4F A14F A14F (riverD (.inl Fa3) (.inl Fb3) (.inl (0, 4)) 3 8 3 41 45 49) (riverD (.inl (a, a)) (.inl (b, b)) (.inl (0, 4)) 3 8 3 42 46 50) ((.inr (.inl (0, 12, Pd1)))) (xD 12 D) ((.inr (.inl (0, 12, Pd3)))) (xD 12 g_8) ((.inr (.inl (0, 12, Ps1)))) (xD 12 Kn) ((.inr (.inl (0, 12, Ps3)))) (xD 12 g_9) ((.inr (.inl (0, 48, Pi1)))) (xD 48 Q) ((.inr (.inl (0, 48, Pi3)))) (xD 48 g_10) q_12 q_13 hq_12 hq_13) mv_X5_copyOf wd_19_18 ⟨Nat.le_of_ble_eq_true rfl, Nat.le_of_ble_eq_true rfl⟩ ⟨Nat.le_of_ble_eq_true rfl, Nat.le_of_ble_eq_true rfl⟩ hH hS (tRecv hK hH (tyb hq_12 (all1 rfl)) clX5) rfl hl.1 (Nat.le_of_ble_eq_true rfl) dX6_keep_34 (fun H locs hq hS => ?_)
  have hH := hq
  have hH : TH E (tbC (dayD (.inl (0, 18))) (dayD (.inl (0, 18))) (riverD (.inl Fa1) (.inl Fb1) (.inl (0, 4)) 31 33 35 39 43 47) (riverD (.inl (a, a)) (.inl (b, b)) (.inl (0, 4)) 32 34 36 40 44 48) (rcD (.inl (t, t)) (.inr [27]) (.inr ks) (.inl (kb, kb))) rd tp A14F A14F A4F A4F A14F A14F (riverD (.inl Fa3) (.inl Fb3) (.inl (0, 4)) 3 8 3 41 45 49) (riverD (.inl (a, a)) (.inl (b, b)) (.inl (0, 4)) 3 8 3 42 46 50) ((.inr (.inl (0, 12, Pd1)))) (xD 12 D) ((.inr (.inl (0, 12, Pd3)))) (xD 12 g_8) ((.inr (.inl (0, 12, Ps1)))) (xD 12 Kn) ((.inr (.inl (0, 12, Ps3)))) (xD 12 g_9) ((.inr (.inl (0, 48, Pi1)))) (xD 48 Q) ((.inr (.inl (0, 48, Pi3)))) (xD 48 g_10)) H := hH
  refine lv_aload_n F.1 F.2.1 dX6_keep_37 rfl (lv_at hl 0 rfl) ?_
  refine lv_dup F.1 F.2.1 dX6_keep_38 rfl ?_
  refine tGetI (j := 10) F hK hH (tyb ha0 (all1 rfl)) rfl clX6 (by decide) wd_39_0 dX6_keep_39 (fun z_15 hz_15 => ?_)
  have ez_15 : 0 ≤ z_15.toInt ∧ z_15.toInt ≤ 3 := by omega
  refine lv_iconst (v := 1) F.1 F.2.1 dX6_keep_42 (by decide) ?_
  refine topK (a := 1) (by decide) (fun k_16 hk_16 => ?_)
  refine lv_iload_n F.1 F.2.1 dX6_keep_43 rfl (lv_at hl 1 rfl) ?_
  refine lv_ishl F.1 F.2.1 dX6_keep_44 ?_
  refine topE (fun z_17 xz_17 => ?_)
  refine lv_ior F.1 F.2.1 dX6_keep_45 ?_
  refine topE (fun z_18 xz_18 => ?_)
  have qz_18 := kb_set1 xz_18 xz_17 (kb := kb) (by omega) (by omega) (by omega) (by omega)
  have bz_18 : 0 ≤ z_18.toInt ∧ z_18.toInt ≤ 3 := by omega
  obtain ⟨g_19, hg_19⟩ : ∃ y : Int, z_18.toInt = y := ⟨_, rfl⟩
  have bg_19 : 0 ≤ g_19 ∧ g_19 ≤ 3 := by rw [← hg_19]; exact bz_18
  refine tPutG (j := 10) (t := 28) (fd := (.inl (g_19, g_19))) F hK hH hS (List.mem_singleton.mp ha0) (by decide) rfl rfl (fdI (by omega)) (TB1 := (tbC (dayD (.inl (0, 18))) (dayD (.inl (0, 18))) (riverD (.inl Fa1) (.inl Fb1) (.inl (0, 4)) 31 33 35 39 43 47) (riverD (.inl (a, a)) (.inl (b, b)) (.inl (0, 4)) 32 34 36 40 44 48) (rcD (.inl (t, t)) (.inr [27]) (.inr ks) (.inl (g_19, g_19))) rd tp A14F A14F A4F A4F A14F A14F (riverD (.inl Fa3) (.inl Fb3) (.inl (0, 4)) 3 8 3 41 45 49) (riverD (.inl (a, a)) (.inl (b, b)) (.inl (0, 4)) 3 8 3 42 46 50) ((.inr (.inl (0, 12, Pd1)))) (xD 12 D) ((.inr (.inl (0, 12, Pd3)))) (xD 12 g_8) ((.inr (.inl (0, 12, Ps1)))) (xD 12 Kn) ((.inr (.inl (0, 12, Ps3)))) (xD 12 g_9) ((.inr (.inl (0, 48, Pi1)))) (xD 48 Q) ((.inr (.inl (0, 48, Pi3)))) (xD 48 g_10))) rfl clX6 (by decide) wd_39_0 rfl rfl rfl rfl dX6_keep_46 (fun H locs hH hS => ?_)
  refine lv_aload_n F.1 F.2.1 dX6_keep_49 rfl (lv_at hl 0 rfl) ?_
  refine tGetR (j := 4) F hK hH (tyb ha0 (all1 rfl)) rfl (all1 rfl) clX6 (by decide) wd_1_22 dX6_keep_50 (fun q_20 hq_20 _ => ?_)
  refine tGetI (j := 0) F hK hH (tyb hq_20 (all1 rfl)) rfl clX5 (by decide) wd_19_12 dX6_keep_53 (fun z_21 hz_21 => ?_)
  exact txI F hS dX6_keep_56 rfl (⟨g_19, ⟨by omega, by omega, by omega⟩, g_8, ⟨hg_8.1, hg_8.2⟩, g_9, ⟨hg_9.1, hg_9.2⟩, g_10, ⟨hg_10.1, hg_10.2⟩, (wkb hz_21 rfl rfl), hH⟩)
set_option maxHeartbeats 4000000 in
set_option maxRecDepth 100000 in
theorem c_X6_backx_0_no (E : Ev) (rd : TD) (tp : TD) (Fa1 : Int × Int) (Fb1 : Int × Int) (Fa2 : Int × Int) (Fb2 : Int × Int) (Fa3 : Int × Int) (Fb3 : Int × Int) (Fa4 : Int × Int) (Fb4 : Int × Int) (kr : List Nat) (ks : List Nat) (Pd1 : (Nat → Int32) → Prop) (Pd2 : (Nat → Int32) → Prop) (Pd3 : (Nat → Int32) → Prop) (Pd4 : (Nat → Int32) → Prop) (Ps1 : (Nat → Int32) → Prop) (Ps2 : (Nat → Int32) → Prop) (Ps3 : (Nat → Int32) → Prop) (Ps4 : (Nat → Int32) → Prop) (Pi1 : (Nat → Int32) → Prop) (Pi2 : (Nat → Int32) → Prop) (Pi3 : (Nat → Int32) → Prop) (Pi4 : (Nat → Int32) → Prop) (t : Int) (kb : Int) (a0 : Nat) (a1 : Int32) (ha0 : eT E a0 ∈ [28]) (ha1 : 0 ≤ a1.toInt ∧ a1.toInt ≤ 0) (ht : 0 ≤ t ∧ t ≤ 400) (hkb : 0 ≤ kb ∧ kb ≤ 3) (hFa1 : 0 ≤ Fa1.1 ∧ Fa1.2 ≤ 12) (hFb1 : 0 ≤ Fb1.1 ∧ Fb1.2 ≤ 14) (hFa2 : 0 ≤ Fa2.1 ∧ Fa2.2 ≤ 12) (hFb2 : 0 ≤ Fb2.1 ∧ Fb2.2 ≤ 14) (hFa3 : 0 ≤ Fa3.1 ∧ Fa3.2 ≤ 12) (hFb3 : 0 ≤ Fb3.1 ∧ Fb3.2 ≤ 14) (hFa4 : 0 ≤ Fa4.1 ∧ Fa4.2 ≤ 12) (hFb4 : 0 ≤ Fb4.1 ∧ Fb4.2 ≤ 14) (hkr : ∀ t ∈ kr, t ∈ [26, 27]) (hks : ∀ t ∈ ks, t ∈ [26, 27]) (hPd1 : ∀ f, Pd1 f → ivP 12 (-2) 11 f) (hPd2 : ∀ f, Pd2 f → ivP 12 (-2) 11 f) (hPd3 : ∀ f, Pd3 f → ivP 12 (-2) 11 f) (hPd4 : ∀ f, Pd4 f → ivP 12 (-2) 11 f) (hPs1 : ∀ f, Ps1 f → ivP 12 (-2147483648) 2147483647 f) (hPs2 : ∀ f, Ps2 f → ivP 12 (-2147483648) 2147483647 f) (hPs3 : ∀ f, Ps3 f → ivP 12 (-2147483648) 2147483647 f) (hPs4 : ∀ f, Ps4 f → ivP 12 (-2147483648) 2147483647 f) (hPi1 : ∀ f, Pi1 f → ivP 48 (-2147483648) 2147483647 f) (hPi2 : ∀ f, Pi2 f → ivP 48 (-2147483648) 2147483647 f) (hPi3 : ∀ f, Pi3 f → ivP 48 (-2147483648) 2147483647 f) (hPi4 : ∀ f, Pi4 f → ivP 48 (-2147483648) 2147483647 f) (hbit : kb % 2 = 0) : TcI E yX6_back cX6_back 2 .int ({ frames := 1, cells := 0, slots := 0, locals := 40 }) [.ref a0, .int a1] (fun H => TH E (tbC (dayD (.inl (0, 18))) (dayD (.inl (0, 18))) (riverD (.inl Fa1) (.inl Fb1) (.inl (0, 4)) 31 33 35 39 43 47) (riverD (.inl Fa2) (.inl Fb2) (.inl (0, 4)) 32 34 36 40 44 48) (rcD (.inl (t, t)) (.inr kr) (.inr ks) (.inl (kb, kb))) rd tp A14F A14F A4F A4F A14F A14F (riverD (.inl Fa3) (.inl Fb3) (.inl (0, 4)) 3 8 3 41 45 49) (riverD (.inl Fa4) (.inl Fb4) (.inl (0, 4)) 3 8 3 42 46 50) ((.inr (.inl (0, 12, Pd1)))) ((.inr (.inl (0, 12, Pd2)))) ((.inr (.inl (0, 12, Pd3)))) ((.inr (.inl (0, 12, Pd4)))) ((.inr (.inl (0, 12, Ps1)))) ((.inr (.inl (0, 12, Ps2)))) ((.inr (.inl (0, 12, Ps3)))) ((.inr (.inl (0, 12, Ps4)))) ((.inr (.inl (0, 48, Pi1)))) ((.inr (.inl (0, 48, Pi2)))) ((.inr (.inl (0, 48, Pi3)))) ((.inr (.inl (0, 48, Pi4))))) H) (fun v H => ((-2147483648) ≤ v.toInt ∧ v.toInt ≤ 2147483647) ∧ TH E (tbC (dayD (.inl (0, 18))) (dayD (.inl (0, 18))) (riverD (.inl Fa1) (.inl Fb1) (.inl (0, 4)) 31 33 35 39 43 47) (riverD (.inl Fa2) (.inl Fb2) (.inl (0, 4)) 32 34 36 40 44 48) (rcD (.inl (t, t)) (.inr kr) (.inr ks) (.inl (kb, kb))) rd tp A14F A14F A4F A4F A14F A14F (riverD (.inl Fa3) (.inl Fb3) (.inl (0, 4)) 3 8 3 41 45 49) (riverD (.inl Fa4) (.inl Fb4) (.inl (0, 4)) 3 8 3 42 46 50) ((.inr (.inl (0, 12, Pd1)))) ((.inr (.inl (0, 12, Pd2)))) ((.inr (.inl (0, 12, Pd3)))) ((.inr (.inl (0, 12, Pd4)))) ((.inr (.inl (0, 12, Ps1)))) ((.inr (.inl (0, 12, Ps2)))) ((.inr (.inl (0, 12, Ps3)))) ((.inr (.inl (0, 12, Ps4)))) ((.inr (.inl (0, 48, Pi1)))) ((.inr (.inl (0, 48, Pi2)))) ((.inr (.inl (0, 48, Pi3)))) ((.inr (.inl (0, 48, Pi4))))) H) := by
  refine teI (by decide) (Nat.le_of_ble_eq_true rfl) ?_
  intro p_ ev_ s mi_ below_ meth cd_ ls F hK hN hO hH hS hl
  have hH : TH E (tbC (dayD (.inl (0, 18))) (dayD (.inl (0, 18))) (riverD (.inl Fa1) (.inl Fb1) (.inl (0, 4)) 31 33 35 39 43 47) (riverD (.inl Fa2) (.inl Fb2) (.inl (0, 4)) 32 34 36 40 44 48) (rcD (.inl (t, t)) (.inr kr) (.inr ks) (.inl (kb, kb))) rd tp A14F A14F A4F A4F A14F A14F (riverD (.inl Fa3) (.inl Fb3) (.inl (0, 4)) 3 8 3 41 45 49) (riverD (.inl Fa4) (.inl Fb4) (.inl (0, 4)) 3 8 3 42 46 50) ((.inr (.inl (0, 12, Pd1)))) ((.inr (.inl (0, 12, Pd2)))) ((.inr (.inl (0, 12, Pd3)))) ((.inr (.inl (0, 12, Pd4)))) ((.inr (.inl (0, 12, Ps1)))) ((.inr (.inl (0, 12, Ps2)))) ((.inr (.inl (0, 12, Ps3)))) ((.inr (.inl (0, 12, Ps4)))) ((.inr (.inl (0, 48, Pi1)))) ((.inr (.inl (0, 48, Pi2)))) ((.inr (.inl (0, 48, Pi3)))) ((.inr (.inl (0, 48, Pi4))))) s.heap := hH
  have hl : lv_has ls 2 [(0, .ref a0), (1, .int a1)] := hl
  refine lv_iload_n F.1 F.2.1 dX6_back_0 rfl (lv_at hl 1 rfl) ?_
  refine z_lt (tgt := 9) F dX6_back_1 (by decide) (fun c_1 => absurd c_1 (by omega)) (fun c_1 => ?_)
  refine lv_iload_n F.1 F.2.1 dX6_back_4 rfl (lv_at hl 1 rfl) ?_
  refine lv_iconst (v := 2) F.1 F.2.1 dX6_back_5 (by decide) ?_
  refine topK (a := 2) (by decide) (fun k_2 hk_2 => ?_)
  refine b_lt (tgt := 11) F dX6_back_6 (by decide) (fun c_3 => ?_) (fun c_3 => absurd c_3 (by omega))
  refine lv_aload_n F.1 F.2.1 dX6_back_11 rfl (lv_at hl 0 rfl) ?_
  refine tGetI (j := 10) F hK hH (tyb ha0 (all1 rfl)) rfl clX6 (by decide) wd_39_0 dX6_back_12 (fun z_4 hz_4 => ?_)
  have ez_4 : 0 ≤ z_4.toInt ∧ z_4.toInt ≤ 3 := by omega
  refine lv_iload_n F.1 F.2.1 dX6_back_15 rfl (lv_at hl 1 rfl) ?_
  refine lv_ishr F.1 F.2.1 dX6_back_16 ?_
  refine topE (fun z_5 xz_5 => ?_)
  refine lv_iconst (v := 1) F.1 F.2.1 dX6_back_17 (by decide) ?_
  refine topK (a := 1) (by decide) (fun k_6 hk_6 => ?_)
  refine lv_iand F.1 F.2.1 dX6_back_18 ?_
  refine topE (fun z_7 xz_7 => ?_)
  have qz_7 := kb_get0 xz_7 xz_5 (kb := kb) (by omega) (by omega) (by omega) (by omega)
  have bz_7 : 0 ≤ z_7.toInt ∧ z_7.toInt ≤ 1 := by omega
  refine z_ne (tgt := 25) F dX6_back_19 (by decide) (fun c_8 => absurd c_8 (by omega)) (fun c_8 => ?_)
  have r_9 : 0 ≤ z_7.toInt ∧ z_7.toInt ≤ 0 := by have h9_ := bz_7; omega
  refine lv_bipush (v := (-2)) F.1 F.2.1 dX6_back_22 (by decide) ?_
  refine topK (a := (-2)) (by decide) (fun k_10 hk_10 => ?_)
  exact txI F hS dX6_back_24 rfl (⟨(wkb (eqb hk_10) rfl rfl), hH⟩)
set_option maxHeartbeats 4000000 in
set_option maxRecDepth 100000 in
theorem c_X6_backx_0_1 (E : Ev) (rd : TD) (tp : TD) (Fa1 : Int × Int) (Fb1 : Int × Int) (Fa2 : Int × Int) (Fb2 : Int × Int) (Fa4 : Int × Int) (Fb4 : Int × Int) (ks : List Nat) (Pd2 : (Nat → Int32) → Prop) (Pd4 : (Nat → Int32) → Prop) (Ps2 : (Nat → Int32) → Prop) (Ps4 : (Nat → Int32) → Prop) (Pi2 : (Nat → Int32) → Prop) (Pi4 : (Nat → Int32) → Prop) (t : Int) (kb : Int) (a : Int) (b : Int) (D1 : Nat → Int32) (D : Nat → Int32) (Kn1 : Nat → Int32) (Kn : Nat → Int32) (Q1 : Nat → Int32) (Q : Nat → Int32) (a0 : Nat) (a1 : Int32) (ha0 : eT E a0 ∈ [28]) (ha1 : 0 ≤ a1.toInt ∧ a1.toInt ≤ 0) (ht : 0 ≤ t ∧ t ≤ 400) (hkb : 0 ≤ kb ∧ kb ≤ 3) (ha : 0 ≤ a ∧ a ≤ 12) (hb : 0 ≤ b ∧ b ≤ 14) (hD1 : ivP 12 (-2) 11 D1) (hD : ivP 12 (-2) 11 D) (hKn1 : ivP 12 (-2147483648) 2147483647 Kn1) (hKn : ivP 12 (-2147483648) 2147483647 Kn) (hQ1 : ivP 48 (-2147483648) 2147483647 Q1) (hQ : ivP 48 (-2147483648) 2147483647 Q) (hFa1 : 0 ≤ Fa1.1 ∧ Fa1.2 ≤ 12) (hFb1 : 0 ≤ Fb1.1 ∧ Fb1.2 ≤ 14) (hFa2 : 0 ≤ Fa2.1 ∧ Fa2.2 ≤ 12) (hFb2 : 0 ≤ Fb2.1 ∧ Fb2.2 ≤ 14) (hFa4 : 0 ≤ Fa4.1 ∧ Fa4.2 ≤ 12) (hFb4 : 0 ≤ Fb4.1 ∧ Fb4.2 ≤ 14) (hks : ∀ t ∈ ks, t ∈ [26, 27]) (hPd2 : ∀ f, Pd2 f → ivP 12 (-2) 11 f) (hPd4 : ∀ f, Pd4 f → ivP 12 (-2) 11 f) (hPs2 : ∀ f, Ps2 f → ivP 12 (-2147483648) 2147483647 f) (hPs4 : ∀ f, Ps4 f → ivP 12 (-2147483648) 2147483647 f) (hPi2 : ∀ f, Pi2 f → ivP 48 (-2147483648) 2147483647 f) (hPi4 : ∀ f, Pi4 f → ivP 48 (-2147483648) 2147483647 f) (hbit : kb % 2 = 1) : TcI E yX6_back cX6_back 2 .int ({ frames := 3, cells := 0, slots := 0, locals := 82 }) [.ref a0, .int a1] (fun H => TH E (tbC (dayD (.inl (0, 18))) (dayD (.inl (0, 18))) (riverD (.inl Fa1) (.inl Fb1) (.inl (0, 4)) 31 33 35 39 43 47) (riverD (.inl Fa2) (.inl Fb2) (.inl (0, 4)) 32 34 36 40 44 48) (rcD (.inl (t, t)) (.inr [26]) (.inr ks) (.inl (kb, kb))) rd tp A14F A14F A4F A4F A14F A14F (riverD (.inl (a, a)) (.inl (b, b)) (.inl (0, 4)) 3 8 3 41 45 49) (riverD (.inl Fa4) (.inl Fb4) (.inl (0, 4)) 3 8 3 42 46 50) (xD 12 D1) ((.inr (.inl (0, 12, Pd2)))) (xD 12 D) ((.inr (.inl (0, 12, Pd4)))) (xD 12 Kn1) ((.inr (.inl (0, 12, Ps2)))) (xD 12 Kn) ((.inr (.inl (0, 12, Ps4)))) (xD 48 Q1) ((.inr (.inl (0, 48, Pi2)))) (xD 48 Q) ((.inr (.inl (0, 48, Pi4))))) H) (fun v H => ∃ D2 : Nat → Int32, (ivP 12 (-2) 11 D2 ∧ ∀ j : Nat, j < 12 → D2 j = D j) ∧ ∃ Kn2 : Nat → Int32, (ivP 12 (-2147483648) 2147483647 Kn2 ∧ ∀ j : Nat, j < 12 → Kn2 j = Kn j) ∧ ∃ Q2 : Nat → Int32, (ivP 48 (-2147483648) 2147483647 Q2 ∧ ∀ j : Nat, j < 48 → Q2 j = Q j) ∧ ((-2147483648) ≤ v.toInt ∧ v.toInt ≤ 2147483647) ∧ TH E (tbC (dayD (.inl (0, 18))) (dayD (.inl (0, 18))) (riverD (.inl (a, a)) (.inl (b, b)) (.inl (0, 4)) 31 33 35 39 43 47) (riverD (.inl Fa2) (.inl Fb2) (.inl (0, 4)) 32 34 36 40 44 48) (rcD (.inl (t, t)) (.inr [26]) (.inr ks) (.inl (kb, kb))) rd tp A14F A14F A4F A4F A14F A14F (riverD (.inl (a, a)) (.inl (b, b)) (.inl (0, 4)) 3 8 3 41 45 49) (riverD (.inl Fa4) (.inl Fb4) (.inl (0, 4)) 3 8 3 42 46 50) (xD 12 D2) ((.inr (.inl (0, 12, Pd2)))) (xD 12 D) ((.inr (.inl (0, 12, Pd4)))) (xD 12 Kn2) ((.inr (.inl (0, 12, Ps2)))) (xD 12 Kn) ((.inr (.inl (0, 12, Ps4)))) (xD 48 Q2) ((.inr (.inl (0, 48, Pi2)))) (xD 48 Q) ((.inr (.inl (0, 48, Pi4))))) H) := by
  refine teI (by decide) (Nat.le_of_ble_eq_true rfl) ?_
  intro p_ ev_ s mi_ below_ meth cd_ ls F hK hN hO hH hS hl
  have hH : TH E (tbC (dayD (.inl (0, 18))) (dayD (.inl (0, 18))) (riverD (.inl Fa1) (.inl Fb1) (.inl (0, 4)) 31 33 35 39 43 47) (riverD (.inl Fa2) (.inl Fb2) (.inl (0, 4)) 32 34 36 40 44 48) (rcD (.inl (t, t)) (.inr [26]) (.inr ks) (.inl (kb, kb))) rd tp A14F A14F A4F A4F A14F A14F (riverD (.inl (a, a)) (.inl (b, b)) (.inl (0, 4)) 3 8 3 41 45 49) (riverD (.inl Fa4) (.inl Fb4) (.inl (0, 4)) 3 8 3 42 46 50) (xD 12 D1) ((.inr (.inl (0, 12, Pd2)))) (xD 12 D) ((.inr (.inl (0, 12, Pd4)))) (xD 12 Kn1) ((.inr (.inl (0, 12, Ps2)))) (xD 12 Kn) ((.inr (.inl (0, 12, Ps4)))) (xD 48 Q1) ((.inr (.inl (0, 48, Pi2)))) (xD 48 Q) ((.inr (.inl (0, 48, Pi4))))) s.heap := hH
  have hl : lv_has ls 2 [(0, .ref a0), (1, .int a1)] := hl
  refine lv_iload_n F.1 F.2.1 dX6_back_0 rfl (lv_at hl 1 rfl) ?_
  refine z_lt (tgt := 9) F dX6_back_1 (by decide) (fun c_1 => absurd c_1 (by omega)) (fun c_1 => ?_)
  refine lv_iload_n F.1 F.2.1 dX6_back_4 rfl (lv_at hl 1 rfl) ?_
  refine lv_iconst (v := 2) F.1 F.2.1 dX6_back_5 (by decide) ?_
  refine topK (a := 2) (by decide) (fun k_2 hk_2 => ?_)
  refine b_lt (tgt := 11) F dX6_back_6 (by decide) (fun c_3 => ?_) (fun c_3 => absurd c_3 (by omega))
  refine lv_aload_n F.1 F.2.1 dX6_back_11 rfl (lv_at hl 0 rfl) ?_
  refine tGetI (j := 10) F hK hH (tyb ha0 (all1 rfl)) rfl clX6 (by decide) wd_39_0 dX6_back_12 (fun z_4 hz_4 => ?_)
  have ez_4 : 0 ≤ z_4.toInt ∧ z_4.toInt ≤ 3 := by omega
  refine lv_iload_n F.1 F.2.1 dX6_back_15 rfl (lv_at hl 1 rfl) ?_
  refine lv_ishr F.1 F.2.1 dX6_back_16 ?_
  refine topE (fun z_5 xz_5 => ?_)
  refine lv_iconst (v := 1) F.1 F.2.1 dX6_back_17 (by decide) ?_
  refine topK (a := 1) (by decide) (fun k_6 hk_6 => ?_)
  refine lv_iand F.1 F.2.1 dX6_back_18 ?_
  refine topE (fun z_7 xz_7 => ?_)
  have qz_7 := kb_get0 xz_7 xz_5 (kb := kb) (by omega) (by omega) (by omega) (by omega)
  have bz_7 : 0 ≤ z_7.toInt ∧ z_7.toInt ≤ 1 := by omega
  refine z_ne (tgt := 25) F dX6_back_19 (by decide) (fun c_8 => ?_) (fun c_8 => absurd c_8 (by omega))
  have r_9 : 1 ≤ z_7.toInt ∧ z_7.toInt ≤ 1 := by have h9_ := bz_7; omega
  refine lv_aload_n F.1 F.2.1 dX6_back_25 rfl (lv_at hl 0 rfl) ?_
  refine tGetR (j := 2) F hK hH (tyb ha0 (all1 rfl)) rfl (all1 rfl) clX6 (by decide) wd_1_17 dX6_back_26 (fun q_10 hq_10 _ => ?_)
  refine lv_aload_n F.1 F.2.1 dX6_back_29 rfl (lv_at hl 0 rfl) ?_
  refine tGetR (j := 8) F hK hH (tyb ha0 (all1 rfl)) rfl (all1 rfl) clX6 (by decide) wd_2_0 dX6_back_30 (fun q_11 hq_11 _ => ?_)
  refine lv_iload_n F.1 F.2.1 dX6_back_33 rfl (lv_at hl 1 rfl) ?_
  refine tAald0 F hK hH (tyb hq_11 (all1 rfl)) rfl (ixb (n := 2) ha1 rfl rfl) dX6_back_34 (fun q_12 hq_12 => ?_)
  have hq_12 : eT E q_12 ∈ [37] := by have h9_ := hq_12; rw [show (a1).toNatClampNeg = 0 from by show (a1).toInt.toNat = _; omega] at h9_; exact h9_
  refine tVv (b := q_10) (As := [.ref q_12]) (rest := []) F hK hN hO (c_X2_copyOfx_26_37 E (dayD (.inl (0, 18))) (dayD (.inl (0, 18))) (riverD (.inl Fa2) (.inl Fb2) (.inl (0, 4)) 32 34 36 40 44 48) (rcD (.inl (t, t)) (.inr [26]) (.inr ks) (.inl (kb, kb))) rd tp (riverD (.inl Fa4) (.inl Fb4) (.inl (0, 4)) 3 8 3 42 46 50) ((.inr (.inl (0, 12, Pd2)))) ((.inr (.inl (0, 12, Pd4)))) ((.inr (.inl (0, 12, Ps2)))) ((.inr (.inl (0, 12, Ps4)))) ((.inr (.inl (0, 48, Pi2)))) ((.inr (.inl (0, 48, Pi4)))) Fa1 Fb1 a b D1 D Kn1 Kn Q1 Q q_10 q_12 hq_10 hq_12 (by omega) (by omega) hD1 hD hKn1 hKn hQ1 hQ hFa1 hFb1) mv_X2_copyOf wd_39_1 ⟨Nat.le_of_ble_eq_true rfl, Nat.le_of_ble_eq_true rfl⟩ ⟨Nat.le_of_ble_eq_true rfl, Nat.le_of_ble_eq_true rfl⟩ hH hS (tRecv hK hH (tyb hq_10 (all1 rfl)) clX2) rfl hl.1 (Nat.le_of_ble_eq_true rfl) dX6_back_35 (fun H locs hq hS => ?_)
  obtain ⟨g_14, hg_14, g_15, hg_15, g_16, hg_16, hH⟩ := hq
  have hH : TH E (tbC (dayD (.inl (0, 18))) (dayD (.inl (0, 18))) (riverD (.inl (a, a)) (.inl (b, b)) (.inl (0, 4)) 31 33 35 39 43 47) (riverD (.inl Fa2) (.inl Fb2) (.inl (0, 4)) 32 34 36 40 44 48) (rcD (.inl (t, t)) (.inr [26]) (.inr ks) (.inl (kb, kb))) rd tp A14F A14F A4F A4F A14F A14F (riverD (.inl (a, a)) (.inl (b, b)) (.inl (0, 4)) 3 8 3 41 45 49) (riverD (.inl Fa4) (.inl Fb4) (.inl (0, 4)) 3 8 3 42 46 50) (xD 12 g_14) ((.inr (.inl (0, 12, Pd2)))) (xD 12 D) ((.inr (.inl (0, 12, Pd4)))) (xD 12 g_15) ((.inr (.inl (0, 12, Ps2)))) (xD 12 Kn) ((.inr (.inl (0, 12, Ps4)))) (xD 48 g_16) ((.inr (.inl (0, 48, Pi2)))) (xD 48 Q) ((.inr (.inl (0, 48, Pi4))))) H := hH
  refine lv_aload_n F.1 F.2.1 dX6_back_38 rfl (lv_at hl 0 rfl) ?_
  refine tGetR (j := 4) F hK hH (tyb ha0 (all1 rfl)) rfl (all1 rfl) clX6 (by decide) wd_1_22 dX6_back_39 (fun q_17 hq_17 _ => ?_)
  refine lv_aload_n F.1 F.2.1 dX6_back_42 rfl (lv_at hl 0 rfl) ?_
  refine tGetR (j := 9) F hK hH (tyb ha0 (all1 rfl)) rfl (all1 rfl) clX6 (by decide) wd_2_1 dX6_back_43 (fun q_18 hq_18 _ => ?_)
  refine lv_iload_n F.1 F.2.1 dX6_back_46 rfl (lv_at hl 1 rfl) ?_
  refine tAald F hK hH (tyb hq_18 (all1 rfl)) rfl (all1 rfl) (ixb (n := 2) ha1 rfl rfl) dX6_back_47 (fun q_19 hq_19 _ => ?_)
  refine tVv (b := q_17) (As := [.ref q_19]) (rest := []) F hK hN hO (c_X5_copyOf E (dayD (.inl (0, 18))) (dayD (.inl (0, 18))) (riverD (.inl (a, a)) (.inl (b, b)) (.inl (0, 4)) 31 33 35 39 43 47) (riverD (.inl Fa2) (.inl Fb2) (.inl (0, 4)) 32 34 36 40 44 48) (rcD (.inl (t, t)) (.inr [26]) (.inr ks) (.inl (kb, kb))) rd tp A14F A14F A4F A4F A14F A14F (riverD (.inl (a, a)) (.inl (b, b)) (.inl (0, 4)) 3 8 3 41 45 49) (riverD (.inl Fa4) (.inl Fb4) (.inl (0, 4)) 3 8 3 42 46 50) (xD 12 g_14) ((.inr (.inl (0, 12, Pd2)))) (xD 12 D) ((.inr (.inl (0, 12, Pd4)))) (xD 12 g_15) ((.inr (.inl (0, 12, Ps2)))) (xD 12 Kn) ((.inr (.inl (0, 12, Ps4)))) (xD 48 g_16) ((.inr (.inl (0, 48, Pi2)))) (xD 48 Q) ((.inr (.inl (0, 48, Pi4)))) q_17 q_19 hq_17 hq_19) mv_X5_copyOf wd_19_18 ⟨Nat.le_of_ble_eq_true rfl, Nat.le_of_ble_eq_true rfl⟩ ⟨Nat.le_of_ble_eq_true rfl, Nat.le_of_ble_eq_true rfl⟩ hH hS (tRecv hK hH (tyb hq_17 (all1 rfl)) clX5) rfl hl.1 (Nat.le_of_ble_eq_true rfl) dX6_back_48 (fun H locs hq hS => ?_)
  have hH := hq
  have hH : TH E (tbC (dayD (.inl (0, 18))) (dayD (.inl (0, 18))) (riverD (.inl (a, a)) (.inl (b, b)) (.inl (0, 4)) 31 33 35 39 43 47) (riverD (.inl Fa2) (.inl Fb2) (.inl (0, 4)) 32 34 36 40 44 48) (rcD (.inl (t, t)) (.inr [26]) (.inr ks) (.inl (kb, kb))) rd tp A14F A14F A4F A4F A14F A14F (riverD (.inl (a, a)) (.inl (b, b)) (.inl (0, 4)) 3 8 3 41 45 49) (riverD (.inl Fa4) (.inl Fb4) (.inl (0, 4)) 3 8 3 42 46 50) (xD 12 g_14) ((.inr (.inl (0, 12, Pd2)))) (xD 12 D) ((.inr (.inl (0, 12, Pd4)))) (xD 12 g_15) ((.inr (.inl (0, 12, Ps2)))) (xD 12 Kn) ((.inr (.inl (0, 12, Ps4)))) (xD 48 g_16) ((.inr (.inl (0, 48, Pi2)))) (xD 48 Q) ((.inr (.inl (0, 48, Pi4))))) H := hH
  refine lv_aload_n F.1 F.2.1 dX6_back_51 rfl (lv_at hl 0 rfl) ?_
  refine lv_iconst (v := 0) F.1 F.2.1 dX6_back_52 (by decide) ?_
  refine topK (a := 0) (by decide) (fun k_21 hk_21 => ?_)
  refine tPut (j := 7) F hK hH hS (tyb ha0 (all1 rfl)) rfl (fdI (wkb (eqb hk_21) rfl rfl)) clX6 (by decide) wd_8_17 rfl rfl rfl rfl dX6_back_53 (fun H locs hH hS => ?_)
  refine lv_aload_n F.1 F.2.1 dX6_back_56 rfl (lv_at hl 0 rfl) ?_
  refine tGetR (j := 4) F hK hH (tyb ha0 (all1 rfl)) rfl (all1 rfl) clX6 (by decide) wd_1_22 dX6_back_57 (fun q_22 hq_22 _ => ?_)
  refine tGetI (j := 0) F hK hH (tyb hq_22 (all1 rfl)) rfl clX5 (by decide) wd_19_12 dX6_back_60 (fun z_23 hz_23 => ?_)
  exact txI F hS dX6_back_63 rfl (⟨g_14, ⟨hg_14.1, hg_14.2⟩, g_15, ⟨hg_15.1, hg_15.2⟩, g_16, ⟨hg_16.1, hg_16.2⟩, (wkb hz_23 rfl rfl), hH⟩)
set_option maxHeartbeats 4000000 in
set_option maxRecDepth 100000 in
theorem c_X6_backx_0_2 (E : Ev) (rd : TD) (tp : TD) (Fa1 : Int × Int) (Fb1 : Int × Int) (Fa2 : Int × Int) (Fb2 : Int × Int) (Fa4 : Int × Int) (Fb4 : Int × Int) (ks : List Nat) (Pd1 : (Nat → Int32) → Prop) (Pd4 : (Nat → Int32) → Prop) (Ps1 : (Nat → Int32) → Prop) (Ps4 : (Nat → Int32) → Prop) (Pi1 : (Nat → Int32) → Prop) (Pi4 : (Nat → Int32) → Prop) (t : Int) (kb : Int) (a : Int) (b : Int) (D1 : Nat → Int32) (D : Nat → Int32) (Kn1 : Nat → Int32) (Kn : Nat → Int32) (Q1 : Nat → Int32) (Q : Nat → Int32) (a0 : Nat) (a1 : Int32) (ha0 : eT E a0 ∈ [28]) (ha1 : 0 ≤ a1.toInt ∧ a1.toInt ≤ 0) (ht : 0 ≤ t ∧ t ≤ 400) (hkb : 0 ≤ kb ∧ kb ≤ 3) (ha : 0 ≤ a ∧ a ≤ 12) (hb : 0 ≤ b ∧ b ≤ 14) (hD1 : ivP 12 (-2) 11 D1) (hD : ivP 12 (-2) 11 D) (hKn1 : ivP 12 (-2147483648) 2147483647 Kn1) (hKn : ivP 12 (-2147483648) 2147483647 Kn) (hQ1 : ivP 48 (-2147483648) 2147483647 Q1) (hQ : ivP 48 (-2147483648) 2147483647 Q) (hFa1 : 0 ≤ Fa1.1 ∧ Fa1.2 ≤ 12) (hFb1 : 0 ≤ Fb1.1 ∧ Fb1.2 ≤ 14) (hFa2 : 0 ≤ Fa2.1 ∧ Fa2.2 ≤ 12) (hFb2 : 0 ≤ Fb2.1 ∧ Fb2.2 ≤ 14) (hFa4 : 0 ≤ Fa4.1 ∧ Fa4.2 ≤ 12) (hFb4 : 0 ≤ Fb4.1 ∧ Fb4.2 ≤ 14) (hks : ∀ t ∈ ks, t ∈ [26, 27]) (hPd1 : ∀ f, Pd1 f → ivP 12 (-2) 11 f) (hPd4 : ∀ f, Pd4 f → ivP 12 (-2) 11 f) (hPs1 : ∀ f, Ps1 f → ivP 12 (-2147483648) 2147483647 f) (hPs4 : ∀ f, Ps4 f → ivP 12 (-2147483648) 2147483647 f) (hPi1 : ∀ f, Pi1 f → ivP 48 (-2147483648) 2147483647 f) (hPi4 : ∀ f, Pi4 f → ivP 48 (-2147483648) 2147483647 f) (hbit : kb % 2 = 1) : TcI E yX6_back cX6_back 2 .int ({ frames := 3, cells := 0, slots := 0, locals := 82 }) [.ref a0, .int a1] (fun H => TH E (tbC (dayD (.inl (0, 18))) (dayD (.inl (0, 18))) (riverD (.inl Fa1) (.inl Fb1) (.inl (0, 4)) 31 33 35 39 43 47) (riverD (.inl Fa2) (.inl Fb2) (.inl (0, 4)) 32 34 36 40 44 48) (rcD (.inl (t, t)) (.inr [27]) (.inr ks) (.inl (kb, kb))) rd tp A14F A14F A4F A4F A14F A14F (riverD (.inl (a, a)) (.inl (b, b)) (.inl (0, 4)) 3 8 3 41 45 49) (riverD (.inl Fa4) (.inl Fb4) (.inl (0, 4)) 3 8 3 42 46 50) ((.inr (.inl (0, 12, Pd1)))) (xD 12 D1) (xD 12 D) ((.inr (.inl (0, 12, Pd4)))) ((.inr (.inl (0, 12, Ps1)))) (xD 12 Kn1) (xD 12 Kn) ((.inr (.inl (0, 12, Ps4)))) ((.inr (.inl (0, 48, Pi1)))) (xD 48 Q1) (xD 48 Q) ((.inr (.inl (0, 48, Pi4))))) H) (fun v H => ∃ D2 : Nat → Int32, (ivP 12 (-2) 11 D2 ∧ ∀ j : Nat, j < 12 → D2 j = D j) ∧ ∃ Kn2 : Nat → Int32, (ivP 12 (-2147483648) 2147483647 Kn2 ∧ ∀ j : Nat, j < 12 → Kn2 j = Kn j) ∧ ∃ Q2 : Nat → Int32, (ivP 48 (-2147483648) 2147483647 Q2 ∧ ∀ j : Nat, j < 48 → Q2 j = Q j) ∧ ((-2147483648) ≤ v.toInt ∧ v.toInt ≤ 2147483647) ∧ TH E (tbC (dayD (.inl (0, 18))) (dayD (.inl (0, 18))) (riverD (.inl Fa1) (.inl Fb1) (.inl (0, 4)) 31 33 35 39 43 47) (riverD (.inl (a, a)) (.inl (b, b)) (.inl (0, 4)) 32 34 36 40 44 48) (rcD (.inl (t, t)) (.inr [27]) (.inr ks) (.inl (kb, kb))) rd tp A14F A14F A4F A4F A14F A14F (riverD (.inl (a, a)) (.inl (b, b)) (.inl (0, 4)) 3 8 3 41 45 49) (riverD (.inl Fa4) (.inl Fb4) (.inl (0, 4)) 3 8 3 42 46 50) ((.inr (.inl (0, 12, Pd1)))) (xD 12 D2) (xD 12 D) ((.inr (.inl (0, 12, Pd4)))) ((.inr (.inl (0, 12, Ps1)))) (xD 12 Kn2) (xD 12 Kn) ((.inr (.inl (0, 12, Ps4)))) ((.inr (.inl (0, 48, Pi1)))) (xD 48 Q2) (xD 48 Q) ((.inr (.inl (0, 48, Pi4))))) H) := by
  refine teI (by decide) (Nat.le_of_ble_eq_true rfl) ?_
  intro p_ ev_ s mi_ below_ meth cd_ ls F hK hN hO hH hS hl
  have hH : TH E (tbC (dayD (.inl (0, 18))) (dayD (.inl (0, 18))) (riverD (.inl Fa1) (.inl Fb1) (.inl (0, 4)) 31 33 35 39 43 47) (riverD (.inl Fa2) (.inl Fb2) (.inl (0, 4)) 32 34 36 40 44 48) (rcD (.inl (t, t)) (.inr [27]) (.inr ks) (.inl (kb, kb))) rd tp A14F A14F A4F A4F A14F A14F (riverD (.inl (a, a)) (.inl (b, b)) (.inl (0, 4)) 3 8 3 41 45 49) (riverD (.inl Fa4) (.inl Fb4) (.inl (0, 4)) 3 8 3 42 46 50) ((.inr (.inl (0, 12, Pd1)))) (xD 12 D1) (xD 12 D) ((.inr (.inl (0, 12, Pd4)))) ((.inr (.inl (0, 12, Ps1)))) (xD 12 Kn1) (xD 12 Kn) ((.inr (.inl (0, 12, Ps4)))) ((.inr (.inl (0, 48, Pi1)))) (xD 48 Q1) (xD 48 Q) ((.inr (.inl (0, 48, Pi4))))) s.heap := hH
  have hl : lv_has ls 2 [(0, .ref a0), (1, .int a1)] := hl
  refine lv_iload_n F.1 F.2.1 dX6_back_0 rfl (lv_at hl 1 rfl) ?_
  refine z_lt (tgt := 9) F dX6_back_1 (by decide) (fun c_1 => absurd c_1 (by omega)) (fun c_1 => ?_)
  refine lv_iload_n F.1 F.2.1 dX6_back_4 rfl (lv_at hl 1 rfl) ?_
  refine lv_iconst (v := 2) F.1 F.2.1 dX6_back_5 (by decide) ?_
  refine topK (a := 2) (by decide) (fun k_2 hk_2 => ?_)
  refine b_lt (tgt := 11) F dX6_back_6 (by decide) (fun c_3 => ?_) (fun c_3 => absurd c_3 (by omega))
  refine lv_aload_n F.1 F.2.1 dX6_back_11 rfl (lv_at hl 0 rfl) ?_
  refine tGetI (j := 10) F hK hH (tyb ha0 (all1 rfl)) rfl clX6 (by decide) wd_39_0 dX6_back_12 (fun z_4 hz_4 => ?_)
  have ez_4 : 0 ≤ z_4.toInt ∧ z_4.toInt ≤ 3 := by omega
  refine lv_iload_n F.1 F.2.1 dX6_back_15 rfl (lv_at hl 1 rfl) ?_
  refine lv_ishr F.1 F.2.1 dX6_back_16 ?_
  refine topE (fun z_5 xz_5 => ?_)
  refine lv_iconst (v := 1) F.1 F.2.1 dX6_back_17 (by decide) ?_
  refine topK (a := 1) (by decide) (fun k_6 hk_6 => ?_)
  refine lv_iand F.1 F.2.1 dX6_back_18 ?_
  refine topE (fun z_7 xz_7 => ?_)
  have qz_7 := kb_get0 xz_7 xz_5 (kb := kb) (by omega) (by omega) (by omega) (by omega)
  have bz_7 : 0 ≤ z_7.toInt ∧ z_7.toInt ≤ 1 := by omega
  refine z_ne (tgt := 25) F dX6_back_19 (by decide) (fun c_8 => ?_) (fun c_8 => absurd c_8 (by omega))
  have r_9 : 1 ≤ z_7.toInt ∧ z_7.toInt ≤ 1 := by have h9_ := bz_7; omega
  refine lv_aload_n F.1 F.2.1 dX6_back_25 rfl (lv_at hl 0 rfl) ?_
  refine tGetR (j := 2) F hK hH (tyb ha0 (all1 rfl)) rfl (all1 rfl) clX6 (by decide) wd_1_17 dX6_back_26 (fun q_10 hq_10 _ => ?_)
  refine lv_aload_n F.1 F.2.1 dX6_back_29 rfl (lv_at hl 0 rfl) ?_
  refine tGetR (j := 8) F hK hH (tyb ha0 (all1 rfl)) rfl (all1 rfl) clX6 (by decide) wd_2_0 dX6_back_30 (fun q_11 hq_11 _ => ?_)
  refine lv_iload_n F.1 F.2.1 dX6_back_33 rfl (lv_at hl 1 rfl) ?_
  refine tAald0 F hK hH (tyb hq_11 (all1 rfl)) rfl (ixb (n := 2) ha1 rfl rfl) dX6_back_34 (fun q_12 hq_12 => ?_)
  have hq_12 : eT E q_12 ∈ [37] := by have h9_ := hq_12; rw [show (a1).toNatClampNeg = 0 from by show (a1).toInt.toNat = _; omega] at h9_; exact h9_
  refine tVv (b := q_10) (As := [.ref q_12]) (rest := []) F hK hN hO (c_X2_copyOfx_27_37 E (dayD (.inl (0, 18))) (dayD (.inl (0, 18))) (riverD (.inl Fa1) (.inl Fb1) (.inl (0, 4)) 31 33 35 39 43 47) (rcD (.inl (t, t)) (.inr [27]) (.inr ks) (.inl (kb, kb))) rd tp (riverD (.inl Fa4) (.inl Fb4) (.inl (0, 4)) 3 8 3 42 46 50) ((.inr (.inl (0, 12, Pd1)))) ((.inr (.inl (0, 12, Pd4)))) ((.inr (.inl (0, 12, Ps1)))) ((.inr (.inl (0, 12, Ps4)))) ((.inr (.inl (0, 48, Pi1)))) ((.inr (.inl (0, 48, Pi4)))) Fa2 Fb2 a b D1 D Kn1 Kn Q1 Q q_10 q_12 hq_10 hq_12 (by omega) (by omega) hD1 hD hKn1 hKn hQ1 hQ hFa2 hFb2) mv_X2_copyOf wd_39_1 ⟨Nat.le_of_ble_eq_true rfl, Nat.le_of_ble_eq_true rfl⟩ ⟨Nat.le_of_ble_eq_true rfl, Nat.le_of_ble_eq_true rfl⟩ hH hS (tRecv hK hH (tyb hq_10 (all1 rfl)) clX2) rfl hl.1 (Nat.le_of_ble_eq_true rfl) dX6_back_35 (fun H locs hq hS => ?_)
  obtain ⟨g_14, hg_14, g_15, hg_15, g_16, hg_16, hH⟩ := hq
  have hH : TH E (tbC (dayD (.inl (0, 18))) (dayD (.inl (0, 18))) (riverD (.inl Fa1) (.inl Fb1) (.inl (0, 4)) 31 33 35 39 43 47) (riverD (.inl (a, a)) (.inl (b, b)) (.inl (0, 4)) 32 34 36 40 44 48) (rcD (.inl (t, t)) (.inr [27]) (.inr ks) (.inl (kb, kb))) rd tp A14F A14F A4F A4F A14F A14F (riverD (.inl (a, a)) (.inl (b, b)) (.inl (0, 4)) 3 8 3 41 45 49) (riverD (.inl Fa4) (.inl Fb4) (.inl (0, 4)) 3 8 3 42 46 50) ((.inr (.inl (0, 12, Pd1)))) (xD 12 g_14) (xD 12 D) ((.inr (.inl (0, 12, Pd4)))) ((.inr (.inl (0, 12, Ps1)))) (xD 12 g_15) (xD 12 Kn) ((.inr (.inl (0, 12, Ps4)))) ((.inr (.inl (0, 48, Pi1)))) (xD 48 g_16) (xD 48 Q) ((.inr (.inl (0, 48, Pi4))))) H := hH
  refine lv_aload_n F.1 F.2.1 dX6_back_38 rfl (lv_at hl 0 rfl) ?_
  refine tGetR (j := 4) F hK hH (tyb ha0 (all1 rfl)) rfl (all1 rfl) clX6 (by decide) wd_1_22 dX6_back_39 (fun q_17 hq_17 _ => ?_)
  refine lv_aload_n F.1 F.2.1 dX6_back_42 rfl (lv_at hl 0 rfl) ?_
  refine tGetR (j := 9) F hK hH (tyb ha0 (all1 rfl)) rfl (all1 rfl) clX6 (by decide) wd_2_1 dX6_back_43 (fun q_18 hq_18 _ => ?_)
  refine lv_iload_n F.1 F.2.1 dX6_back_46 rfl (lv_at hl 1 rfl) ?_
  refine tAald F hK hH (tyb hq_18 (all1 rfl)) rfl (all1 rfl) (ixb (n := 2) ha1 rfl rfl) dX6_back_47 (fun q_19 hq_19 _ => ?_)
  refine tVv (b := q_17) (As := [.ref q_19]) (rest := []) F hK hN hO (c_X5_copyOf E (dayD (.inl (0, 18))) (dayD (.inl (0, 18))) (riverD (.inl Fa1) (.inl Fb1) (.inl (0, 4)) 31 33 35 39 43 47) (riverD (.inl (a, a)) (.inl (b, b)) (.inl (0, 4)) 32 34 36 40 44 48) (rcD (.inl (t, t)) (.inr [27]) (.inr ks) (.inl (kb, kb))) rd tp A14F A14F A4F A4F A14F A14F (riverD (.inl (a, a)) (.inl (b, b)) (.inl (0, 4)) 3 8 3 41 45 49) (riverD (.inl Fa4) (.inl Fb4) (.inl (0, 4)) 3 8 3 42 46 50) ((.inr (.inl (0, 12, Pd1)))) (xD 12 g_14) (xD 12 D) ((.inr (.inl (0, 12, Pd4)))) ((.inr (.inl (0, 12, Ps1)))) (xD 12 g_15) (xD 12 Kn) ((.inr (.inl (0, 12, Ps4)))) ((.inr (.inl (0, 48, Pi1)))) (xD 48 g_16) (xD 48 Q) ((.inr (.inl (0, 48, Pi4)))) q_17 q_19 hq_17 hq_19) mv_X5_copyOf wd_19_18 ⟨Nat.le_of_ble_eq_true rfl, Nat.le_of_ble_eq_true rfl⟩ ⟨Nat.le_of_ble_eq_true rfl, Nat.le_of_ble_eq_true rfl⟩ hH hS (tRecv hK hH (tyb hq_17 (all1 rfl)) clX5) rfl hl.1 (Nat.le_of_ble_eq_true rfl) dX6_back_48 (fun H locs hq hS => ?_)
  have hH := hq
  have hH : TH E (tbC (dayD (.inl (0, 18))) (dayD (.inl (0, 18))) (riverD (.inl Fa1) (.inl Fb1) (.inl (0, 4)) 31 33 35 39 43 47) (riverD (.inl (a, a)) (.inl (b, b)) (.inl (0, 4)) 32 34 36 40 44 48) (rcD (.inl (t, t)) (.inr [27]) (.inr ks) (.inl (kb, kb))) rd tp A14F A14F A4F A4F A14F A14F (riverD (.inl (a, a)) (.inl (b, b)) (.inl (0, 4)) 3 8 3 41 45 49) (riverD (.inl Fa4) (.inl Fb4) (.inl (0, 4)) 3 8 3 42 46 50) ((.inr (.inl (0, 12, Pd1)))) (xD 12 g_14) (xD 12 D) ((.inr (.inl (0, 12, Pd4)))) ((.inr (.inl (0, 12, Ps1)))) (xD 12 g_15) (xD 12 Kn) ((.inr (.inl (0, 12, Ps4)))) ((.inr (.inl (0, 48, Pi1)))) (xD 48 g_16) (xD 48 Q) ((.inr (.inl (0, 48, Pi4))))) H := hH
  refine lv_aload_n F.1 F.2.1 dX6_back_51 rfl (lv_at hl 0 rfl) ?_
  refine lv_iconst (v := 0) F.1 F.2.1 dX6_back_52 (by decide) ?_
  refine topK (a := 0) (by decide) (fun k_21 hk_21 => ?_)
  refine tPut (j := 7) F hK hH hS (tyb ha0 (all1 rfl)) rfl (fdI (wkb (eqb hk_21) rfl rfl)) clX6 (by decide) wd_8_17 rfl rfl rfl rfl dX6_back_53 (fun H locs hH hS => ?_)
  refine lv_aload_n F.1 F.2.1 dX6_back_56 rfl (lv_at hl 0 rfl) ?_
  refine tGetR (j := 4) F hK hH (tyb ha0 (all1 rfl)) rfl (all1 rfl) clX6 (by decide) wd_1_22 dX6_back_57 (fun q_22 hq_22 _ => ?_)
  refine tGetI (j := 0) F hK hH (tyb hq_22 (all1 rfl)) rfl clX5 (by decide) wd_19_12 dX6_back_60 (fun z_23 hz_23 => ?_)
  exact txI F hS dX6_back_63 rfl (⟨g_14, ⟨hg_14.1, hg_14.2⟩, g_15, ⟨hg_15.1, hg_15.2⟩, g_16, ⟨hg_16.1, hg_16.2⟩, (wkb hz_23 rfl rfl), hH⟩)
set_option maxHeartbeats 4000000 in
set_option maxRecDepth 100000 in
theorem c_X6_backx_1_no (E : Ev) (rd : TD) (tp : TD) (Fa1 : Int × Int) (Fb1 : Int × Int) (Fa2 : Int × Int) (Fb2 : Int × Int) (Fa3 : Int × Int) (Fb3 : Int × Int) (Fa4 : Int × Int) (Fb4 : Int × Int) (kr : List Nat) (ks : List Nat) (Pd1 : (Nat → Int32) → Prop) (Pd2 : (Nat → Int32) → Prop) (Pd3 : (Nat → Int32) → Prop) (Pd4 : (Nat → Int32) → Prop) (Ps1 : (Nat → Int32) → Prop) (Ps2 : (Nat → Int32) → Prop) (Ps3 : (Nat → Int32) → Prop) (Ps4 : (Nat → Int32) → Prop) (Pi1 : (Nat → Int32) → Prop) (Pi2 : (Nat → Int32) → Prop) (Pi3 : (Nat → Int32) → Prop) (Pi4 : (Nat → Int32) → Prop) (t : Int) (kb : Int) (a0 : Nat) (a1 : Int32) (ha0 : eT E a0 ∈ [28]) (ha1 : 1 ≤ a1.toInt ∧ a1.toInt ≤ 1) (ht : 0 ≤ t ∧ t ≤ 400) (hkb : 0 ≤ kb ∧ kb ≤ 3) (hFa1 : 0 ≤ Fa1.1 ∧ Fa1.2 ≤ 12) (hFb1 : 0 ≤ Fb1.1 ∧ Fb1.2 ≤ 14) (hFa2 : 0 ≤ Fa2.1 ∧ Fa2.2 ≤ 12) (hFb2 : 0 ≤ Fb2.1 ∧ Fb2.2 ≤ 14) (hFa3 : 0 ≤ Fa3.1 ∧ Fa3.2 ≤ 12) (hFb3 : 0 ≤ Fb3.1 ∧ Fb3.2 ≤ 14) (hFa4 : 0 ≤ Fa4.1 ∧ Fa4.2 ≤ 12) (hFb4 : 0 ≤ Fb4.1 ∧ Fb4.2 ≤ 14) (hkr : ∀ t ∈ kr, t ∈ [26, 27]) (hks : ∀ t ∈ ks, t ∈ [26, 27]) (hPd1 : ∀ f, Pd1 f → ivP 12 (-2) 11 f) (hPd2 : ∀ f, Pd2 f → ivP 12 (-2) 11 f) (hPd3 : ∀ f, Pd3 f → ivP 12 (-2) 11 f) (hPd4 : ∀ f, Pd4 f → ivP 12 (-2) 11 f) (hPs1 : ∀ f, Ps1 f → ivP 12 (-2147483648) 2147483647 f) (hPs2 : ∀ f, Ps2 f → ivP 12 (-2147483648) 2147483647 f) (hPs3 : ∀ f, Ps3 f → ivP 12 (-2147483648) 2147483647 f) (hPs4 : ∀ f, Ps4 f → ivP 12 (-2147483648) 2147483647 f) (hPi1 : ∀ f, Pi1 f → ivP 48 (-2147483648) 2147483647 f) (hPi2 : ∀ f, Pi2 f → ivP 48 (-2147483648) 2147483647 f) (hPi3 : ∀ f, Pi3 f → ivP 48 (-2147483648) 2147483647 f) (hPi4 : ∀ f, Pi4 f → ivP 48 (-2147483648) 2147483647 f) (hbit : kb / 2 = 0) : TcI E yX6_back cX6_back 2 .int ({ frames := 1, cells := 0, slots := 0, locals := 40 }) [.ref a0, .int a1] (fun H => TH E (tbC (dayD (.inl (0, 18))) (dayD (.inl (0, 18))) (riverD (.inl Fa1) (.inl Fb1) (.inl (0, 4)) 31 33 35 39 43 47) (riverD (.inl Fa2) (.inl Fb2) (.inl (0, 4)) 32 34 36 40 44 48) (rcD (.inl (t, t)) (.inr kr) (.inr ks) (.inl (kb, kb))) rd tp A14F A14F A4F A4F A14F A14F (riverD (.inl Fa3) (.inl Fb3) (.inl (0, 4)) 3 8 3 41 45 49) (riverD (.inl Fa4) (.inl Fb4) (.inl (0, 4)) 3 8 3 42 46 50) ((.inr (.inl (0, 12, Pd1)))) ((.inr (.inl (0, 12, Pd2)))) ((.inr (.inl (0, 12, Pd3)))) ((.inr (.inl (0, 12, Pd4)))) ((.inr (.inl (0, 12, Ps1)))) ((.inr (.inl (0, 12, Ps2)))) ((.inr (.inl (0, 12, Ps3)))) ((.inr (.inl (0, 12, Ps4)))) ((.inr (.inl (0, 48, Pi1)))) ((.inr (.inl (0, 48, Pi2)))) ((.inr (.inl (0, 48, Pi3)))) ((.inr (.inl (0, 48, Pi4))))) H) (fun v H => ((-2147483648) ≤ v.toInt ∧ v.toInt ≤ 2147483647) ∧ TH E (tbC (dayD (.inl (0, 18))) (dayD (.inl (0, 18))) (riverD (.inl Fa1) (.inl Fb1) (.inl (0, 4)) 31 33 35 39 43 47) (riverD (.inl Fa2) (.inl Fb2) (.inl (0, 4)) 32 34 36 40 44 48) (rcD (.inl (t, t)) (.inr kr) (.inr ks) (.inl (kb, kb))) rd tp A14F A14F A4F A4F A14F A14F (riverD (.inl Fa3) (.inl Fb3) (.inl (0, 4)) 3 8 3 41 45 49) (riverD (.inl Fa4) (.inl Fb4) (.inl (0, 4)) 3 8 3 42 46 50) ((.inr (.inl (0, 12, Pd1)))) ((.inr (.inl (0, 12, Pd2)))) ((.inr (.inl (0, 12, Pd3)))) ((.inr (.inl (0, 12, Pd4)))) ((.inr (.inl (0, 12, Ps1)))) ((.inr (.inl (0, 12, Ps2)))) ((.inr (.inl (0, 12, Ps3)))) ((.inr (.inl (0, 12, Ps4)))) ((.inr (.inl (0, 48, Pi1)))) ((.inr (.inl (0, 48, Pi2)))) ((.inr (.inl (0, 48, Pi3)))) ((.inr (.inl (0, 48, Pi4))))) H) := by
  refine teI (by decide) (Nat.le_of_ble_eq_true rfl) ?_
  intro p_ ev_ s mi_ below_ meth cd_ ls F hK hN hO hH hS hl
  have hH : TH E (tbC (dayD (.inl (0, 18))) (dayD (.inl (0, 18))) (riverD (.inl Fa1) (.inl Fb1) (.inl (0, 4)) 31 33 35 39 43 47) (riverD (.inl Fa2) (.inl Fb2) (.inl (0, 4)) 32 34 36 40 44 48) (rcD (.inl (t, t)) (.inr kr) (.inr ks) (.inl (kb, kb))) rd tp A14F A14F A4F A4F A14F A14F (riverD (.inl Fa3) (.inl Fb3) (.inl (0, 4)) 3 8 3 41 45 49) (riverD (.inl Fa4) (.inl Fb4) (.inl (0, 4)) 3 8 3 42 46 50) ((.inr (.inl (0, 12, Pd1)))) ((.inr (.inl (0, 12, Pd2)))) ((.inr (.inl (0, 12, Pd3)))) ((.inr (.inl (0, 12, Pd4)))) ((.inr (.inl (0, 12, Ps1)))) ((.inr (.inl (0, 12, Ps2)))) ((.inr (.inl (0, 12, Ps3)))) ((.inr (.inl (0, 12, Ps4)))) ((.inr (.inl (0, 48, Pi1)))) ((.inr (.inl (0, 48, Pi2)))) ((.inr (.inl (0, 48, Pi3)))) ((.inr (.inl (0, 48, Pi4))))) s.heap := hH
  have hl : lv_has ls 2 [(0, .ref a0), (1, .int a1)] := hl
  refine lv_iload_n F.1 F.2.1 dX6_back_0 rfl (lv_at hl 1 rfl) ?_
  refine z_lt (tgt := 9) F dX6_back_1 (by decide) (fun c_1 => absurd c_1 (by omega)) (fun c_1 => ?_)
  refine lv_iload_n F.1 F.2.1 dX6_back_4 rfl (lv_at hl 1 rfl) ?_
  refine lv_iconst (v := 2) F.1 F.2.1 dX6_back_5 (by decide) ?_
  refine topK (a := 2) (by decide) (fun k_2 hk_2 => ?_)
  refine b_lt (tgt := 11) F dX6_back_6 (by decide) (fun c_3 => ?_) (fun c_3 => absurd c_3 (by omega))
  refine lv_aload_n F.1 F.2.1 dX6_back_11 rfl (lv_at hl 0 rfl) ?_
  refine tGetI (j := 10) F hK hH (tyb ha0 (all1 rfl)) rfl clX6 (by decide) wd_39_0 dX6_back_12 (fun z_4 hz_4 => ?_)
  have ez_4 : 0 ≤ z_4.toInt ∧ z_4.toInt ≤ 3 := by omega
  refine lv_iload_n F.1 F.2.1 dX6_back_15 rfl (lv_at hl 1 rfl) ?_
  refine lv_ishr F.1 F.2.1 dX6_back_16 ?_
  refine topE (fun z_5 xz_5 => ?_)
  refine lv_iconst (v := 1) F.1 F.2.1 dX6_back_17 (by decide) ?_
  refine topK (a := 1) (by decide) (fun k_6 hk_6 => ?_)
  refine lv_iand F.1 F.2.1 dX6_back_18 ?_
  refine topE (fun z_7 xz_7 => ?_)
  have qz_7 := kb_get1 xz_7 xz_5 (kb := kb) (by omega) (by omega) (by omega) (by omega)
  have bz_7 : 0 ≤ z_7.toInt ∧ z_7.toInt ≤ 1 := by omega
  refine z_ne (tgt := 25) F dX6_back_19 (by decide) (fun c_8 => absurd c_8 (by omega)) (fun c_8 => ?_)
  have r_9 : 0 ≤ z_7.toInt ∧ z_7.toInt ≤ 0 := by have h9_ := bz_7; omega
  refine lv_bipush (v := (-2)) F.1 F.2.1 dX6_back_22 (by decide) ?_
  refine topK (a := (-2)) (by decide) (fun k_10 hk_10 => ?_)
  exact txI F hS dX6_back_24 rfl (⟨(wkb (eqb hk_10) rfl rfl), hH⟩)
set_option maxHeartbeats 4000000 in
set_option maxRecDepth 100000 in
theorem c_X6_backx_1_1 (E : Ev) (rd : TD) (tp : TD) (Fa1 : Int × Int) (Fb1 : Int × Int) (Fa2 : Int × Int) (Fb2 : Int × Int) (Fa3 : Int × Int) (Fb3 : Int × Int) (ks : List Nat) (Pd2 : (Nat → Int32) → Prop) (Pd3 : (Nat → Int32) → Prop) (Ps2 : (Nat → Int32) → Prop) (Ps3 : (Nat → Int32) → Prop) (Pi2 : (Nat → Int32) → Prop) (Pi3 : (Nat → Int32) → Prop) (t : Int) (kb : Int) (a : Int) (b : Int) (D1 : Nat → Int32) (D : Nat → Int32) (Kn1 : Nat → Int32) (Kn : Nat → Int32) (Q1 : Nat → Int32) (Q : Nat → Int32) (a0 : Nat) (a1 : Int32) (ha0 : eT E a0 ∈ [28]) (ha1 : 1 ≤ a1.toInt ∧ a1.toInt ≤ 1) (ht : 0 ≤ t ∧ t ≤ 400) (hkb : 0 ≤ kb ∧ kb ≤ 3) (ha : 0 ≤ a ∧ a ≤ 12) (hb : 0 ≤ b ∧ b ≤ 14) (hD1 : ivP 12 (-2) 11 D1) (hD : ivP 12 (-2) 11 D) (hKn1 : ivP 12 (-2147483648) 2147483647 Kn1) (hKn : ivP 12 (-2147483648) 2147483647 Kn) (hQ1 : ivP 48 (-2147483648) 2147483647 Q1) (hQ : ivP 48 (-2147483648) 2147483647 Q) (hFa1 : 0 ≤ Fa1.1 ∧ Fa1.2 ≤ 12) (hFb1 : 0 ≤ Fb1.1 ∧ Fb1.2 ≤ 14) (hFa2 : 0 ≤ Fa2.1 ∧ Fa2.2 ≤ 12) (hFb2 : 0 ≤ Fb2.1 ∧ Fb2.2 ≤ 14) (hFa3 : 0 ≤ Fa3.1 ∧ Fa3.2 ≤ 12) (hFb3 : 0 ≤ Fb3.1 ∧ Fb3.2 ≤ 14) (hks : ∀ t ∈ ks, t ∈ [26, 27]) (hPd2 : ∀ f, Pd2 f → ivP 12 (-2) 11 f) (hPd3 : ∀ f, Pd3 f → ivP 12 (-2) 11 f) (hPs2 : ∀ f, Ps2 f → ivP 12 (-2147483648) 2147483647 f) (hPs3 : ∀ f, Ps3 f → ivP 12 (-2147483648) 2147483647 f) (hPi2 : ∀ f, Pi2 f → ivP 48 (-2147483648) 2147483647 f) (hPi3 : ∀ f, Pi3 f → ivP 48 (-2147483648) 2147483647 f) (hbit : kb / 2 = 1) : TcI E yX6_back cX6_back 2 .int ({ frames := 3, cells := 0, slots := 0, locals := 82 }) [.ref a0, .int a1] (fun H => TH E (tbC (dayD (.inl (0, 18))) (dayD (.inl (0, 18))) (riverD (.inl Fa1) (.inl Fb1) (.inl (0, 4)) 31 33 35 39 43 47) (riverD (.inl Fa2) (.inl Fb2) (.inl (0, 4)) 32 34 36 40 44 48) (rcD (.inl (t, t)) (.inr [26]) (.inr ks) (.inl (kb, kb))) rd tp A14F A14F A4F A4F A14F A14F (riverD (.inl Fa3) (.inl Fb3) (.inl (0, 4)) 3 8 3 41 45 49) (riverD (.inl (a, a)) (.inl (b, b)) (.inl (0, 4)) 3 8 3 42 46 50) (xD 12 D1) ((.inr (.inl (0, 12, Pd2)))) ((.inr (.inl (0, 12, Pd3)))) (xD 12 D) (xD 12 Kn1) ((.inr (.inl (0, 12, Ps2)))) ((.inr (.inl (0, 12, Ps3)))) (xD 12 Kn) (xD 48 Q1) ((.inr (.inl (0, 48, Pi2)))) ((.inr (.inl (0, 48, Pi3)))) (xD 48 Q)) H) (fun v H => ∃ D2 : Nat → Int32, (ivP 12 (-2) 11 D2 ∧ ∀ j : Nat, j < 12 → D2 j = D j) ∧ ∃ Kn2 : Nat → Int32, (ivP 12 (-2147483648) 2147483647 Kn2 ∧ ∀ j : Nat, j < 12 → Kn2 j = Kn j) ∧ ∃ Q2 : Nat → Int32, (ivP 48 (-2147483648) 2147483647 Q2 ∧ ∀ j : Nat, j < 48 → Q2 j = Q j) ∧ ((-2147483648) ≤ v.toInt ∧ v.toInt ≤ 2147483647) ∧ TH E (tbC (dayD (.inl (0, 18))) (dayD (.inl (0, 18))) (riverD (.inl (a, a)) (.inl (b, b)) (.inl (0, 4)) 31 33 35 39 43 47) (riverD (.inl Fa2) (.inl Fb2) (.inl (0, 4)) 32 34 36 40 44 48) (rcD (.inl (t, t)) (.inr [26]) (.inr ks) (.inl (kb, kb))) rd tp A14F A14F A4F A4F A14F A14F (riverD (.inl Fa3) (.inl Fb3) (.inl (0, 4)) 3 8 3 41 45 49) (riverD (.inl (a, a)) (.inl (b, b)) (.inl (0, 4)) 3 8 3 42 46 50) (xD 12 D2) ((.inr (.inl (0, 12, Pd2)))) ((.inr (.inl (0, 12, Pd3)))) (xD 12 D) (xD 12 Kn2) ((.inr (.inl (0, 12, Ps2)))) ((.inr (.inl (0, 12, Ps3)))) (xD 12 Kn) (xD 48 Q2) ((.inr (.inl (0, 48, Pi2)))) ((.inr (.inl (0, 48, Pi3)))) (xD 48 Q)) H) := by
  refine teI (by decide) (Nat.le_of_ble_eq_true rfl) ?_
  intro p_ ev_ s mi_ below_ meth cd_ ls F hK hN hO hH hS hl
  have hH : TH E (tbC (dayD (.inl (0, 18))) (dayD (.inl (0, 18))) (riverD (.inl Fa1) (.inl Fb1) (.inl (0, 4)) 31 33 35 39 43 47) (riverD (.inl Fa2) (.inl Fb2) (.inl (0, 4)) 32 34 36 40 44 48) (rcD (.inl (t, t)) (.inr [26]) (.inr ks) (.inl (kb, kb))) rd tp A14F A14F A4F A4F A14F A14F (riverD (.inl Fa3) (.inl Fb3) (.inl (0, 4)) 3 8 3 41 45 49) (riverD (.inl (a, a)) (.inl (b, b)) (.inl (0, 4)) 3 8 3 42 46 50) (xD 12 D1) ((.inr (.inl (0, 12, Pd2)))) ((.inr (.inl (0, 12, Pd3)))) (xD 12 D) (xD 12 Kn1) ((.inr (.inl (0, 12, Ps2)))) ((.inr (.inl (0, 12, Ps3)))) (xD 12 Kn) (xD 48 Q1) ((.inr (.inl (0, 48, Pi2)))) ((.inr (.inl (0, 48, Pi3)))) (xD 48 Q)) s.heap := hH
  have hl : lv_has ls 2 [(0, .ref a0), (1, .int a1)] := hl
  refine lv_iload_n F.1 F.2.1 dX6_back_0 rfl (lv_at hl 1 rfl) ?_
  refine z_lt (tgt := 9) F dX6_back_1 (by decide) (fun c_1 => absurd c_1 (by omega)) (fun c_1 => ?_)
  refine lv_iload_n F.1 F.2.1 dX6_back_4 rfl (lv_at hl 1 rfl) ?_
  refine lv_iconst (v := 2) F.1 F.2.1 dX6_back_5 (by decide) ?_
  refine topK (a := 2) (by decide) (fun k_2 hk_2 => ?_)
  refine b_lt (tgt := 11) F dX6_back_6 (by decide) (fun c_3 => ?_) (fun c_3 => absurd c_3 (by omega))
  refine lv_aload_n F.1 F.2.1 dX6_back_11 rfl (lv_at hl 0 rfl) ?_
  refine tGetI (j := 10) F hK hH (tyb ha0 (all1 rfl)) rfl clX6 (by decide) wd_39_0 dX6_back_12 (fun z_4 hz_4 => ?_)
  have ez_4 : 0 ≤ z_4.toInt ∧ z_4.toInt ≤ 3 := by omega
  refine lv_iload_n F.1 F.2.1 dX6_back_15 rfl (lv_at hl 1 rfl) ?_
  refine lv_ishr F.1 F.2.1 dX6_back_16 ?_
  refine topE (fun z_5 xz_5 => ?_)
  refine lv_iconst (v := 1) F.1 F.2.1 dX6_back_17 (by decide) ?_
  refine topK (a := 1) (by decide) (fun k_6 hk_6 => ?_)
  refine lv_iand F.1 F.2.1 dX6_back_18 ?_
  refine topE (fun z_7 xz_7 => ?_)
  have qz_7 := kb_get1 xz_7 xz_5 (kb := kb) (by omega) (by omega) (by omega) (by omega)
  have bz_7 : 0 ≤ z_7.toInt ∧ z_7.toInt ≤ 1 := by omega
  refine z_ne (tgt := 25) F dX6_back_19 (by decide) (fun c_8 => ?_) (fun c_8 => absurd c_8 (by omega))
  have r_9 : 1 ≤ z_7.toInt ∧ z_7.toInt ≤ 1 := by have h9_ := bz_7; omega
  refine lv_aload_n F.1 F.2.1 dX6_back_25 rfl (lv_at hl 0 rfl) ?_
  refine tGetR (j := 2) F hK hH (tyb ha0 (all1 rfl)) rfl (all1 rfl) clX6 (by decide) wd_1_17 dX6_back_26 (fun q_10 hq_10 _ => ?_)
  refine lv_aload_n F.1 F.2.1 dX6_back_29 rfl (lv_at hl 0 rfl) ?_
  refine tGetR (j := 8) F hK hH (tyb ha0 (all1 rfl)) rfl (all1 rfl) clX6 (by decide) wd_2_0 dX6_back_30 (fun q_11 hq_11 _ => ?_)
  refine lv_iload_n F.1 F.2.1 dX6_back_33 rfl (lv_at hl 1 rfl) ?_
  refine tAald0 F hK hH (tyb hq_11 (all1 rfl)) rfl (ixb (n := 2) ha1 rfl rfl) dX6_back_34 (fun q_12 hq_12 => ?_)
  have hq_12 : eT E q_12 ∈ [38] := by have h9_ := hq_12; rw [show (a1).toNatClampNeg = 1 from by show (a1).toInt.toNat = _; omega] at h9_; exact h9_
  refine tVv (b := q_10) (As := [.ref q_12]) (rest := []) F hK hN hO (c_X2_copyOfx_26_38 E (dayD (.inl (0, 18))) (dayD (.inl (0, 18))) (riverD (.inl Fa2) (.inl Fb2) (.inl (0, 4)) 32 34 36 40 44 48) (rcD (.inl (t, t)) (.inr [26]) (.inr ks) (.inl (kb, kb))) rd tp (riverD (.inl Fa3) (.inl Fb3) (.inl (0, 4)) 3 8 3 41 45 49) ((.inr (.inl (0, 12, Pd2)))) ((.inr (.inl (0, 12, Pd3)))) ((.inr (.inl (0, 12, Ps2)))) ((.inr (.inl (0, 12, Ps3)))) ((.inr (.inl (0, 48, Pi2)))) ((.inr (.inl (0, 48, Pi3)))) Fa1 Fb1 a b D1 D Kn1 Kn Q1 Q q_10 q_12 hq_10 hq_12 (by omega) (by omega) hD1 hD hKn1 hKn hQ1 hQ hFa1 hFb1) mv_X2_copyOf wd_39_1 ⟨Nat.le_of_ble_eq_true rfl, Nat.le_of_ble_eq_true rfl⟩ ⟨Nat.le_of_ble_eq_true rfl, Nat.le_of_ble_eq_true rfl⟩ hH hS (tRecv hK hH (tyb hq_10 (all1 rfl)) clX2) rfl hl.1 (Nat.le_of_ble_eq_true rfl) dX6_back_35 (fun H locs hq hS => ?_)
  obtain ⟨g_14, hg_14, g_15, hg_15, g_16, hg_16, hH⟩ := hq
  have hH : TH E (tbC (dayD (.inl (0, 18))) (dayD (.inl (0, 18))) (riverD (.inl (a, a)) (.inl (b, b)) (.inl (0, 4)) 31 33 35 39 43 47) (riverD (.inl Fa2) (.inl Fb2) (.inl (0, 4)) 32 34 36 40 44 48) (rcD (.inl (t, t)) (.inr [26]) (.inr ks) (.inl (kb, kb))) rd tp A14F A14F A4F A4F A14F A14F (riverD (.inl Fa3) (.inl Fb3) (.inl (0, 4)) 3 8 3 41 45 49) (riverD (.inl (a, a)) (.inl (b, b)) (.inl (0, 4)) 3 8 3 42 46 50) (xD 12 g_14) ((.inr (.inl (0, 12, Pd2)))) ((.inr (.inl (0, 12, Pd3)))) (xD 12 D) (xD 12 g_15) ((.inr (.inl (0, 12, Ps2)))) ((.inr (.inl (0, 12, Ps3)))) (xD 12 Kn) (xD 48 g_16) ((.inr (.inl (0, 48, Pi2)))) ((.inr (.inl (0, 48, Pi3)))) (xD 48 Q)) H := hH
  refine lv_aload_n F.1 F.2.1 dX6_back_38 rfl (lv_at hl 0 rfl) ?_
  refine tGetR (j := 4) F hK hH (tyb ha0 (all1 rfl)) rfl (all1 rfl) clX6 (by decide) wd_1_22 dX6_back_39 (fun q_17 hq_17 _ => ?_)
  refine lv_aload_n F.1 F.2.1 dX6_back_42 rfl (lv_at hl 0 rfl) ?_
  refine tGetR (j := 9) F hK hH (tyb ha0 (all1 rfl)) rfl (all1 rfl) clX6 (by decide) wd_2_1 dX6_back_43 (fun q_18 hq_18 _ => ?_)
  refine lv_iload_n F.1 F.2.1 dX6_back_46 rfl (lv_at hl 1 rfl) ?_
  refine tAald F hK hH (tyb hq_18 (all1 rfl)) rfl (all1 rfl) (ixb (n := 2) ha1 rfl rfl) dX6_back_47 (fun q_19 hq_19 _ => ?_)
  refine tVv (b := q_17) (As := [.ref q_19]) (rest := []) F hK hN hO (c_X5_copyOf E (dayD (.inl (0, 18))) (dayD (.inl (0, 18))) (riverD (.inl (a, a)) (.inl (b, b)) (.inl (0, 4)) 31 33 35 39 43 47) (riverD (.inl Fa2) (.inl Fb2) (.inl (0, 4)) 32 34 36 40 44 48) (rcD (.inl (t, t)) (.inr [26]) (.inr ks) (.inl (kb, kb))) rd tp A14F A14F A4F A4F A14F A14F (riverD (.inl Fa3) (.inl Fb3) (.inl (0, 4)) 3 8 3 41 45 49) (riverD (.inl (a, a)) (.inl (b, b)) (.inl (0, 4)) 3 8 3 42 46 50) (xD 12 g_14) ((.inr (.inl (0, 12, Pd2)))) ((.inr (.inl (0, 12, Pd3)))) (xD 12 D) (xD 12 g_15) ((.inr (.inl (0, 12, Ps2)))) ((.inr (.inl (0, 12, Ps3)))) (xD 12 Kn) (xD 48 g_16) ((.inr (.inl (0, 48, Pi2)))) ((.inr (.inl (0, 48, Pi3)))) (xD 48 Q) q_17 q_19 hq_17 hq_19) mv_X5_copyOf wd_19_18 ⟨Nat.le_of_ble_eq_true rfl, Nat.le_of_ble_eq_true rfl⟩ ⟨Nat.le_of_ble_eq_true rfl, Nat.le_of_ble_eq_true rfl⟩ hH hS (tRecv hK hH (tyb hq_17 (all1 rfl)) clX5) rfl hl.1 (Nat.le_of_ble_eq_true rfl) dX6_back_48 (fun H locs hq hS => ?_)
  have hH := hq
  have hH : TH E (tbC (dayD (.inl (0, 18))) (dayD (.inl (0, 18))) (riverD (.inl (a, a)) (.inl (b, b)) (.inl (0, 4)) 31 33 35 39 43 47) (riverD (.inl Fa2) (.inl Fb2) (.inl (0, 4)) 32 34 36 40 44 48) (rcD (.inl (t, t)) (.inr [26]) (.inr ks) (.inl (kb, kb))) rd tp A14F A14F A4F A4F A14F A14F (riverD (.inl Fa3) (.inl Fb3) (.inl (0, 4)) 3 8 3 41 45 49) (riverD (.inl (a, a)) (.inl (b, b)) (.inl (0, 4)) 3 8 3 42 46 50) (xD 12 g_14) ((.inr (.inl (0, 12, Pd2)))) ((.inr (.inl (0, 12, Pd3)))) (xD 12 D) (xD 12 g_15) ((.inr (.inl (0, 12, Ps2)))) ((.inr (.inl (0, 12, Ps3)))) (xD 12 Kn) (xD 48 g_16) ((.inr (.inl (0, 48, Pi2)))) ((.inr (.inl (0, 48, Pi3)))) (xD 48 Q)) H := hH
  refine lv_aload_n F.1 F.2.1 dX6_back_51 rfl (lv_at hl 0 rfl) ?_
  refine lv_iconst (v := 0) F.1 F.2.1 dX6_back_52 (by decide) ?_
  refine topK (a := 0) (by decide) (fun k_21 hk_21 => ?_)
  refine tPut (j := 7) F hK hH hS (tyb ha0 (all1 rfl)) rfl (fdI (wkb (eqb hk_21) rfl rfl)) clX6 (by decide) wd_8_17 rfl rfl rfl rfl dX6_back_53 (fun H locs hH hS => ?_)
  refine lv_aload_n F.1 F.2.1 dX6_back_56 rfl (lv_at hl 0 rfl) ?_
  refine tGetR (j := 4) F hK hH (tyb ha0 (all1 rfl)) rfl (all1 rfl) clX6 (by decide) wd_1_22 dX6_back_57 (fun q_22 hq_22 _ => ?_)
  refine tGetI (j := 0) F hK hH (tyb hq_22 (all1 rfl)) rfl clX5 (by decide) wd_19_12 dX6_back_60 (fun z_23 hz_23 => ?_)
  exact txI F hS dX6_back_63 rfl (⟨g_14, ⟨hg_14.1, hg_14.2⟩, g_15, ⟨hg_15.1, hg_15.2⟩, g_16, ⟨hg_16.1, hg_16.2⟩, (wkb hz_23 rfl rfl), hH⟩)
set_option maxHeartbeats 4000000 in
set_option maxRecDepth 100000 in
theorem c_X6_backx_1_2 (E : Ev) (rd : TD) (tp : TD) (Fa1 : Int × Int) (Fb1 : Int × Int) (Fa2 : Int × Int) (Fb2 : Int × Int) (Fa3 : Int × Int) (Fb3 : Int × Int) (ks : List Nat) (Pd1 : (Nat → Int32) → Prop) (Pd3 : (Nat → Int32) → Prop) (Ps1 : (Nat → Int32) → Prop) (Ps3 : (Nat → Int32) → Prop) (Pi1 : (Nat → Int32) → Prop) (Pi3 : (Nat → Int32) → Prop) (t : Int) (kb : Int) (a : Int) (b : Int) (D1 : Nat → Int32) (D : Nat → Int32) (Kn1 : Nat → Int32) (Kn : Nat → Int32) (Q1 : Nat → Int32) (Q : Nat → Int32) (a0 : Nat) (a1 : Int32) (ha0 : eT E a0 ∈ [28]) (ha1 : 1 ≤ a1.toInt ∧ a1.toInt ≤ 1) (ht : 0 ≤ t ∧ t ≤ 400) (hkb : 0 ≤ kb ∧ kb ≤ 3) (ha : 0 ≤ a ∧ a ≤ 12) (hb : 0 ≤ b ∧ b ≤ 14) (hD1 : ivP 12 (-2) 11 D1) (hD : ivP 12 (-2) 11 D) (hKn1 : ivP 12 (-2147483648) 2147483647 Kn1) (hKn : ivP 12 (-2147483648) 2147483647 Kn) (hQ1 : ivP 48 (-2147483648) 2147483647 Q1) (hQ : ivP 48 (-2147483648) 2147483647 Q) (hFa1 : 0 ≤ Fa1.1 ∧ Fa1.2 ≤ 12) (hFb1 : 0 ≤ Fb1.1 ∧ Fb1.2 ≤ 14) (hFa2 : 0 ≤ Fa2.1 ∧ Fa2.2 ≤ 12) (hFb2 : 0 ≤ Fb2.1 ∧ Fb2.2 ≤ 14) (hFa3 : 0 ≤ Fa3.1 ∧ Fa3.2 ≤ 12) (hFb3 : 0 ≤ Fb3.1 ∧ Fb3.2 ≤ 14) (hks : ∀ t ∈ ks, t ∈ [26, 27]) (hPd1 : ∀ f, Pd1 f → ivP 12 (-2) 11 f) (hPd3 : ∀ f, Pd3 f → ivP 12 (-2) 11 f) (hPs1 : ∀ f, Ps1 f → ivP 12 (-2147483648) 2147483647 f) (hPs3 : ∀ f, Ps3 f → ivP 12 (-2147483648) 2147483647 f) (hPi1 : ∀ f, Pi1 f → ivP 48 (-2147483648) 2147483647 f) (hPi3 : ∀ f, Pi3 f → ivP 48 (-2147483648) 2147483647 f) (hbit : kb / 2 = 1) : TcI E yX6_back cX6_back 2 .int ({ frames := 3, cells := 0, slots := 0, locals := 82 }) [.ref a0, .int a1] (fun H => TH E (tbC (dayD (.inl (0, 18))) (dayD (.inl (0, 18))) (riverD (.inl Fa1) (.inl Fb1) (.inl (0, 4)) 31 33 35 39 43 47) (riverD (.inl Fa2) (.inl Fb2) (.inl (0, 4)) 32 34 36 40 44 48) (rcD (.inl (t, t)) (.inr [27]) (.inr ks) (.inl (kb, kb))) rd tp A14F A14F A4F A4F A14F A14F (riverD (.inl Fa3) (.inl Fb3) (.inl (0, 4)) 3 8 3 41 45 49) (riverD (.inl (a, a)) (.inl (b, b)) (.inl (0, 4)) 3 8 3 42 46 50) ((.inr (.inl (0, 12, Pd1)))) (xD 12 D1) ((.inr (.inl (0, 12, Pd3)))) (xD 12 D) ((.inr (.inl (0, 12, Ps1)))) (xD 12 Kn1) ((.inr (.inl (0, 12, Ps3)))) (xD 12 Kn) ((.inr (.inl (0, 48, Pi1)))) (xD 48 Q1) ((.inr (.inl (0, 48, Pi3)))) (xD 48 Q)) H) (fun v H => ∃ D2 : Nat → Int32, (ivP 12 (-2) 11 D2 ∧ ∀ j : Nat, j < 12 → D2 j = D j) ∧ ∃ Kn2 : Nat → Int32, (ivP 12 (-2147483648) 2147483647 Kn2 ∧ ∀ j : Nat, j < 12 → Kn2 j = Kn j) ∧ ∃ Q2 : Nat → Int32, (ivP 48 (-2147483648) 2147483647 Q2 ∧ ∀ j : Nat, j < 48 → Q2 j = Q j) ∧ ((-2147483648) ≤ v.toInt ∧ v.toInt ≤ 2147483647) ∧ TH E (tbC (dayD (.inl (0, 18))) (dayD (.inl (0, 18))) (riverD (.inl Fa1) (.inl Fb1) (.inl (0, 4)) 31 33 35 39 43 47) (riverD (.inl (a, a)) (.inl (b, b)) (.inl (0, 4)) 32 34 36 40 44 48) (rcD (.inl (t, t)) (.inr [27]) (.inr ks) (.inl (kb, kb))) rd tp A14F A14F A4F A4F A14F A14F (riverD (.inl Fa3) (.inl Fb3) (.inl (0, 4)) 3 8 3 41 45 49) (riverD (.inl (a, a)) (.inl (b, b)) (.inl (0, 4)) 3 8 3 42 46 50) ((.inr (.inl (0, 12, Pd1)))) (xD 12 D2) ((.inr (.inl (0, 12, Pd3)))) (xD 12 D) ((.inr (.inl (0, 12, Ps1)))) (xD 12 Kn2) ((.inr (.inl (0, 12, Ps3)))) (xD 12 Kn) ((.inr (.inl (0, 48, Pi1)))) (xD 48 Q2) ((.inr (.inl (0, 48, Pi3)))) (xD 48 Q)) H) := by
  refine teI (by decide) (Nat.le_of_ble_eq_true rfl) ?_
  intro p_ ev_ s mi_ below_ meth cd_ ls F hK hN hO hH hS hl
  have hH : TH E (tbC (dayD (.inl (0, 18))) (dayD (.inl (0, 18))) (riverD (.inl Fa1) (.inl Fb1) (.inl (0, 4)) 31 33 35 39 43 47) (riverD (.inl Fa2) (.inl Fb2) (.inl (0, 4)) 32 34 36 40 44 48) (rcD (.inl (t, t)) (.inr [27]) (.inr ks) (.inl (kb, kb))) rd tp A14F A14F A4F A4F A14F A14F (riverD (.inl Fa3) (.inl Fb3) (.inl (0, 4)) 3 8 3 41 45 49) (riverD (.inl (a, a)) (.inl (b, b)) (.inl (0, 4)) 3 8 3 42 46 50) ((.inr (.inl (0, 12, Pd1)))) (xD 12 D1) ((.inr (.inl (0, 12, Pd3)))) (xD 12 D) ((.inr (.inl (0, 12, Ps1)))) (xD 12 Kn1) ((.inr (.inl (0, 12, Ps3)))) (xD 12 Kn) ((.inr (.inl (0, 48, Pi1)))) (xD 48 Q1) ((.inr (.inl (0, 48, Pi3)))) (xD 48 Q)) s.heap := hH
  have hl : lv_has ls 2 [(0, .ref a0), (1, .int a1)] := hl
  refine lv_iload_n F.1 F.2.1 dX6_back_0 rfl (lv_at hl 1 rfl) ?_
  refine z_lt (tgt := 9) F dX6_back_1 (by decide) (fun c_1 => absurd c_1 (by omega)) (fun c_1 => ?_)
  refine lv_iload_n F.1 F.2.1 dX6_back_4 rfl (lv_at hl 1 rfl) ?_
  refine lv_iconst (v := 2) F.1 F.2.1 dX6_back_5 (by decide) ?_
  refine topK (a := 2) (by decide) (fun k_2 hk_2 => ?_)
  refine b_lt (tgt := 11) F dX6_back_6 (by decide) (fun c_3 => ?_) (fun c_3 => absurd c_3 (by omega))
  refine lv_aload_n F.1 F.2.1 dX6_back_11 rfl (lv_at hl 0 rfl) ?_
  refine tGetI (j := 10) F hK hH (tyb ha0 (all1 rfl)) rfl clX6 (by decide) wd_39_0 dX6_back_12 (fun z_4 hz_4 => ?_)
  have ez_4 : 0 ≤ z_4.toInt ∧ z_4.toInt ≤ 3 := by omega
  refine lv_iload_n F.1 F.2.1 dX6_back_15 rfl (lv_at hl 1 rfl) ?_
  refine lv_ishr F.1 F.2.1 dX6_back_16 ?_
  refine topE (fun z_5 xz_5 => ?_)
  refine lv_iconst (v := 1) F.1 F.2.1 dX6_back_17 (by decide) ?_
  refine topK (a := 1) (by decide) (fun k_6 hk_6 => ?_)
  refine lv_iand F.1 F.2.1 dX6_back_18 ?_
  refine topE (fun z_7 xz_7 => ?_)
  have qz_7 := kb_get1 xz_7 xz_5 (kb := kb) (by omega) (by omega) (by omega) (by omega)
  have bz_7 : 0 ≤ z_7.toInt ∧ z_7.toInt ≤ 1 := by omega
  refine z_ne (tgt := 25) F dX6_back_19 (by decide) (fun c_8 => ?_) (fun c_8 => absurd c_8 (by omega))
  have r_9 : 1 ≤ z_7.toInt ∧ z_7.toInt ≤ 1 := by have h9_ := bz_7; omega
  refine lv_aload_n F.1 F.2.1 dX6_back_25 rfl (lv_at hl 0 rfl) ?_
  refine tGetR (j := 2) F hK hH (tyb ha0 (all1 rfl)) rfl (all1 rfl) clX6 (by decide) wd_1_17 dX6_back_26 (fun q_10 hq_10 _ => ?_)
  refine lv_aload_n F.1 F.2.1 dX6_back_29 rfl (lv_at hl 0 rfl) ?_
  refine tGetR (j := 8) F hK hH (tyb ha0 (all1 rfl)) rfl (all1 rfl) clX6 (by decide) wd_2_0 dX6_back_30 (fun q_11 hq_11 _ => ?_)
  refine lv_iload_n F.1 F.2.1 dX6_back_33 rfl (lv_at hl 1 rfl) ?_
  refine tAald0 F hK hH (tyb hq_11 (all1 rfl)) rfl (ixb (n := 2) ha1 rfl rfl) dX6_back_34 (fun q_12 hq_12 => ?_)
  have hq_12 : eT E q_12 ∈ [38] := by have h9_ := hq_12; rw [show (a1).toNatClampNeg = 1 from by show (a1).toInt.toNat = _; omega] at h9_; exact h9_
  refine tVv (b := q_10) (As := [.ref q_12]) (rest := []) F hK hN hO (c_X2_copyOfx_27_38 E (dayD (.inl (0, 18))) (dayD (.inl (0, 18))) (riverD (.inl Fa1) (.inl Fb1) (.inl (0, 4)) 31 33 35 39 43 47) (rcD (.inl (t, t)) (.inr [27]) (.inr ks) (.inl (kb, kb))) rd tp (riverD (.inl Fa3) (.inl Fb3) (.inl (0, 4)) 3 8 3 41 45 49) ((.inr (.inl (0, 12, Pd1)))) ((.inr (.inl (0, 12, Pd3)))) ((.inr (.inl (0, 12, Ps1)))) ((.inr (.inl (0, 12, Ps3)))) ((.inr (.inl (0, 48, Pi1)))) ((.inr (.inl (0, 48, Pi3)))) Fa2 Fb2 a b D1 D Kn1 Kn Q1 Q q_10 q_12 hq_10 hq_12 (by omega) (by omega) hD1 hD hKn1 hKn hQ1 hQ hFa2 hFb2) mv_X2_copyOf wd_39_1 ⟨Nat.le_of_ble_eq_true rfl, Nat.le_of_ble_eq_true rfl⟩ ⟨Nat.le_of_ble_eq_true rfl, Nat.le_of_ble_eq_true rfl⟩ hH hS (tRecv hK hH (tyb hq_10 (all1 rfl)) clX2) rfl hl.1 (Nat.le_of_ble_eq_true rfl) dX6_back_35 (fun H locs hq hS => ?_)
  obtain ⟨g_14, hg_14, g_15, hg_15, g_16, hg_16, hH⟩ := hq
  have hH : TH E (tbC (dayD (.inl (0, 18))) (dayD (.inl (0, 18))) (riverD (.inl Fa1) (.inl Fb1) (.inl (0, 4)) 31 33 35 39 43 47) (riverD (.inl (a, a)) (.inl (b, b)) (.inl (0, 4)) 32 34 36 40 44 48) (rcD (.inl (t, t)) (.inr [27]) (.inr ks) (.inl (kb, kb))) rd tp A14F A14F A4F A4F A14F A14F (riverD (.inl Fa3) (.inl Fb3) (.inl (0, 4)) 3 8 3 41 45 49) (riverD (.inl (a, a)) (.inl (b, b)) (.inl (0, 4)) 3 8 3 42 46 50) ((.inr (.inl (0, 12, Pd1)))) (xD 12 g_14) ((.inr (.inl (0, 12, Pd3)))) (xD 12 D) ((.inr (.inl (0, 12, Ps1)))) (xD 12 g_15) ((.inr (.inl (0, 12, Ps3)))) (xD 12 Kn) ((.inr (.inl (0, 48, Pi1)))) (xD 48 g_16) ((.inr (.inl (0, 48, Pi3)))) (xD 48 Q)) H := hH
  refine lv_aload_n F.1 F.2.1 dX6_back_38 rfl (lv_at hl 0 rfl) ?_
  refine tGetR (j := 4) F hK hH (tyb ha0 (all1 rfl)) rfl (all1 rfl) clX6 (by decide) wd_1_22 dX6_back_39 (fun q_17 hq_17 _ => ?_)
  refine lv_aload_n F.1 F.2.1 dX6_back_42 rfl (lv_at hl 0 rfl) ?_
  refine tGetR (j := 9) F hK hH (tyb ha0 (all1 rfl)) rfl (all1 rfl) clX6 (by decide) wd_2_1 dX6_back_43 (fun q_18 hq_18 _ => ?_)
  refine lv_iload_n F.1 F.2.1 dX6_back_46 rfl (lv_at hl 1 rfl) ?_
  refine tAald F hK hH (tyb hq_18 (all1 rfl)) rfl (all1 rfl) (ixb (n := 2) ha1 rfl rfl) dX6_back_47 (fun q_19 hq_19 _ => ?_)
  refine tVv (b := q_17) (As := [.ref q_19]) (rest := []) F hK hN hO (c_X5_copyOf E (dayD (.inl (0, 18))) (dayD (.inl (0, 18))) (riverD (.inl Fa1) (.inl Fb1) (.inl (0, 4)) 31 33 35 39 43 47) (riverD (.inl (a, a)) (.inl (b, b)) (.inl (0, 4)) 32 34 36 40 44 48) (rcD (.inl (t, t)) (.inr [27]) (.inr ks) (.inl (kb, kb))) rd tp A14F A14F A4F A4F A14F A14F (riverD (.inl Fa3) (.inl Fb3) (.inl (0, 4)) 3 8 3 41 45 49) (riverD (.inl (a, a)) (.inl (b, b)) (.inl (0, 4)) 3 8 3 42 46 50) ((.inr (.inl (0, 12, Pd1)))) (xD 12 g_14) ((.inr (.inl (0, 12, Pd3)))) (xD 12 D) ((.inr (.inl (0, 12, Ps1)))) (xD 12 g_15) ((.inr (.inl (0, 12, Ps3)))) (xD 12 Kn) ((.inr (.inl (0, 48, Pi1)))) (xD 48 g_16) ((.inr (.inl (0, 48, Pi3)))) (xD 48 Q) q_17 q_19 hq_17 hq_19) mv_X5_copyOf wd_19_18 ⟨Nat.le_of_ble_eq_true rfl, Nat.le_of_ble_eq_true rfl⟩ ⟨Nat.le_of_ble_eq_true rfl, Nat.le_of_ble_eq_true rfl⟩ hH hS (tRecv hK hH (tyb hq_17 (all1 rfl)) clX5) rfl hl.1 (Nat.le_of_ble_eq_true rfl) dX6_back_48 (fun H locs hq hS => ?_)
  have hH := hq
  have hH : TH E (tbC (dayD (.inl (0, 18))) (dayD (.inl (0, 18))) (riverD (.inl Fa1) (.inl Fb1) (.inl (0, 4)) 31 33 35 39 43 47) (riverD (.inl (a, a)) (.inl (b, b)) (.inl (0, 4)) 32 34 36 40 44 48) (rcD (.inl (t, t)) (.inr [27]) (.inr ks) (.inl (kb, kb))) rd tp A14F A14F A4F A4F A14F A14F (riverD (.inl Fa3) (.inl Fb3) (.inl (0, 4)) 3 8 3 41 45 49) (riverD (.inl (a, a)) (.inl (b, b)) (.inl (0, 4)) 3 8 3 42 46 50) ((.inr (.inl (0, 12, Pd1)))) (xD 12 g_14) ((.inr (.inl (0, 12, Pd3)))) (xD 12 D) ((.inr (.inl (0, 12, Ps1)))) (xD 12 g_15) ((.inr (.inl (0, 12, Ps3)))) (xD 12 Kn) ((.inr (.inl (0, 48, Pi1)))) (xD 48 g_16) ((.inr (.inl (0, 48, Pi3)))) (xD 48 Q)) H := hH
  refine lv_aload_n F.1 F.2.1 dX6_back_51 rfl (lv_at hl 0 rfl) ?_
  refine lv_iconst (v := 0) F.1 F.2.1 dX6_back_52 (by decide) ?_
  refine topK (a := 0) (by decide) (fun k_21 hk_21 => ?_)
  refine tPut (j := 7) F hK hH hS (tyb ha0 (all1 rfl)) rfl (fdI (wkb (eqb hk_21) rfl rfl)) clX6 (by decide) wd_8_17 rfl rfl rfl rfl dX6_back_53 (fun H locs hH hS => ?_)
  refine lv_aload_n F.1 F.2.1 dX6_back_56 rfl (lv_at hl 0 rfl) ?_
  refine tGetR (j := 4) F hK hH (tyb ha0 (all1 rfl)) rfl (all1 rfl) clX6 (by decide) wd_1_22 dX6_back_57 (fun q_22 hq_22 _ => ?_)
  refine tGetI (j := 0) F hK hH (tyb hq_22 (all1 rfl)) rfl clX5 (by decide) wd_19_12 dX6_back_60 (fun z_23 hz_23 => ?_)
  exact txI F hS dX6_back_63 rfl (⟨g_14, ⟨hg_14.1, hg_14.2⟩, g_15, ⟨hg_15.1, hg_15.2⟩, g_16, ⟨hg_16.1, hg_16.2⟩, (wkb hz_23 rfl rfl), hH⟩)
