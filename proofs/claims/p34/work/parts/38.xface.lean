
set_option maxHeartbeats 4000000 in
set_option maxRecDepth 100000 in
theorem c_X2_runsTo_1 (E : Ev) (dA : TD) (dB : TD) (rB : TD) (rc : TD) (rd : TD) (tp : TD) (ya : TD) (yb : TD) (yc : TD) (yd : TD) (ye : TD) (yf : TD) (rC : TD) (rD : TD) (wd2 : TD) (wd3 : TD) (wd4 : TD) (ws2 : TD) (ws3 : TD) (ws4 : TD) (wi2 : TD) (wi3 : TD) (wi4 : TD) (Fb1 : Int × Int) (a : Int) (D : Nat → Int32) (Kn : Nat → Int32) (Q : Nat → Int32) (a0 : Nat) (a1 : Int32) (a2 : Int32) (ha0 : eT E a0 ∈ [26]) (ha1 : 0 ≤ a1.toInt ∧ a1.toInt ≤ 11) (ha : 0 ≤ a ∧ a ≤ 12) (hD : ivP 12 (-2) 11 D) (hKn : ivP 12 (-2147483648) 2147483647 Kn) (hQ : ivP 48 (-2147483648) 2147483647 Q) (hFb1 : 0 ≤ Fb1.1 ∧ Fb1.2 ≤ 14) : TcI E yX2_runsTo cX2_runsTo 5 .boolean ({ frames := 1, cells := 0, slots := 0, locals := 40 }) [.ref a0, .int a1, .int a2] (fun H => TH E (tbC dA dB (riverD (.inl (a, a)) (.inl Fb1) (.inl (0, 4)) 31 33 35 39 43 47) rB rc rd tp ya yb yc yd ye yf rC rD (xD 12 D) wd2 wd3 wd4 (xD 12 Kn) ws2 ws3 ws4 (xD 48 Q) wi2 wi3 wi4) H) (fun v H => (0 ≤ v.toInt ∧ v.toInt ≤ 1) ∧ (v.toInt = jTo D a2.toInt 12 a1.toInt) ∧ TH E (tbC dA dB (riverD (.inl (a, a)) (.inl Fb1) (.inl (0, 4)) 31 33 35 39 43 47) rB rc rd tp ya yb yc yd ye yf rC rD (xD 12 D) wd2 wd3 wd4 (xD 12 Kn) ws2 ws3 ws4 (xD 48 Q) wi2 wi3 wi4) H) := by
  refine teI (by decide) (Nat.le_of_ble_eq_true rfl) ?_
  intro p_ ev_ s mi_ below_ meth cd_ ls F hK hN hO hH hS hl
  have hH : TH E (tbC dA dB (riverD (.inl (a, a)) (.inl Fb1) (.inl (0, 4)) 31 33 35 39 43 47) rB rc rd tp ya yb yc yd ye yf rC rD (xD 12 D) wd2 wd3 wd4 (xD 12 Kn) ws2 ws3 ws4 (xD 48 Q) wi2 wi3 wi4) s.heap := hH
  have hl : lv_has ls 5 [(0, .ref a0), (1, .int a1), (2, .int a2)] := hl
  refine lv_iload_n F.1 F.2.1 dX2_runsTo_0 rfl (lv_at hl 1 rfl) ?_
  refine lv_istore_n (lv' := [(3, .int a1), (0, .ref a0), (1, .int a1), (2, .int a2)]) F.1 F.2.1 dX2_runsTo_1 rfl hl (by decide) rfl (fun ls hl => ?_)
  refine lv_iconst (v := 0) F.1 F.2.1 dX2_runsTo_2 (by decide) ?_
  refine topK (a := 0) (by decide) (fun k_1 hk_1 => ?_)
  refine lv_istore (lv' := [(4, .int k_1), (3, .int a1), (0, .ref a0), (1, .int a1), (2, .int a2)]) F.1 F.2.1 dX2_runsTo_3 hl (by decide) rfl (fun ls hl => ?_)
  refine wloop (σ := Int32 × Int32) (fun n9 x9 H locs ls => (12 - x9.2.toInt + 1).toNat < n9 ∧ ((-2) ≤ x9.1.toInt ∧ x9.1.toInt ≤ 11) ∧ (0 ≤ x9.2.toInt ∧ x9.2.toInt ≤ 12) ∧ (jTo D a2.toInt (12 - (x9.2.toInt)).toNat (x9.1.toInt) = jTo D a2.toInt 12 a1.toInt) ∧ TH E (tbC dA dB (riverD (.inl (a, a)) (.inl Fb1) (.inl (0, 4)) 31 33 35 39 43 47) rB rc rd tp ya yb yc yd ye yf rC rD (xD 12 D) wd2 wd3 wd4 (xD 12 Kn) ws2 ws3 ws4 (xD 48 Q) wi2 wi3 wi4) H ∧ va_S (eA E s.heap.size) s.heap H locs ∧ lv_has ls 5 [(0, .ref a0), (2, .int a2), (3, .int x9.1), (4, .int x9.2)]) ?_ (fun x9 H locs ls h => absurd h.1 (Nat.not_lt_zero _)) _ (a1, k_1) ⟨Nat.lt_succ_self _, (wkb ha1 rfl rfl), (wkb (eqb hk_1) rfl rfl), (show jTo D a2.toInt (12 - (k_1.toInt)).toNat (a1.toInt) = jTo D a2.toInt 12 a1.toInt from (to_0 (by omega) rfl)), hH, hS, lv_sub hl [2, 4, 1, 0] rfl⟩
  intro n_5 ih_5 ⟨u_2, u_3⟩ H locs ls ⟨hm_5, hu_2, hu_3, hcr5_0, hH, hS, hl⟩
  have hm_5 : (12 - u_3.toInt + 1).toNat < n_5 + 1 := hm_5
  have hu_2 : ((-2) ≤ u_2.toInt ∧ u_2.toInt ≤ 11) := hu_2
  have hu_3 : (0 ≤ u_3.toInt ∧ u_3.toInt ≤ 12) := hu_3
  have hcr5_0 : (jTo D a2.toInt (12 - (u_3.toInt)).toNat (u_2.toInt) = jTo D a2.toInt 12 a1.toInt) := hcr5_0
  have hH : TH E (tbC dA dB (riverD (.inl (a, a)) (.inl Fb1) (.inl (0, 4)) 31 33 35 39 43 47) rB rc rd tp ya yb yc yd ye yf rC rD (xD 12 D) wd2 wd3 wd4 (xD 12 Kn) ws2 ws3 ws4 (xD 48 Q) wi2 wi3 wi4) H := hH
  have hl : lv_has ls 5 [(0, .ref a0), (2, .int a2), (3, .int u_2), (4, .int u_3)] := hl
  refine lv_iload F.1 F.2.1 dX2_runsTo_5 (lv_at hl 3 rfl) ?_
  refine lv_bipush (v := 12) F.1 F.2.1 dX2_runsTo_7 (by decide) ?_
  refine topK (a := 12) (by decide) (fun k_4 hk_4 => ?_)
  refine b_ge (tgt := 36) F dX2_runsTo_9 (by decide) (fun c_5 => ?_) (fun c_5 => ?_)
  · skip
    have r_6 : 12 ≤ u_3.toInt ∧ u_3.toInt ≤ 12 := by have h9_ := hu_3; omega
    refine lv_iconst (v := 0) F.1 F.2.1 dX2_runsTo_36 (by decide) ?_
    refine topK (a := 0) (by decide) (fun k_8 hk_8 => ?_)
    exact txI F hS dX2_runsTo_37 (nar01 (wkb (eqb hk_8) rfl rfl)) (⟨(wkb (eqb hk_8) rfl rfl), (to_n' hcr5_0 (by omega) (by omega)), hH⟩)
  · skip
    have r_7 : 0 ≤ u_3.toInt ∧ u_3.toInt ≤ 11 := by have h9_ := hu_3; omega
    refine lv_iload_n F.1 F.2.1 dX2_runsTo_12 rfl (lv_at hl 2 rfl) ?_
    refine z_lt (tgt := 36) F dX2_runsTo_13 (by decide) (fun c_9 => ?_) (fun c_9 => ?_)
    · skip
      have r_10 : (-2) ≤ u_2.toInt ∧ u_2.toInt ≤ (-1) := by have h9_ := hu_2; omega
      refine lv_iconst (v := 0) F.1 F.2.1 dX2_runsTo_36 (by decide) ?_
      refine topK (a := 0) (by decide) (fun k_12 hk_12 => ?_)
      exact txI F hS dX2_runsTo_37 (nar01 (wkb (eqb hk_12) rfl rfl)) (⟨(wkb (eqb hk_12) rfl rfl), (to_n' hcr5_0 (by omega) (by omega)), hH⟩)
    · skip
      have r_11 : 0 ≤ u_2.toInt ∧ u_2.toInt ≤ 11 := by have h9_ := hu_2; omega
      refine lv_iload_n F.1 F.2.1 dX2_runsTo_16 rfl (lv_at hl 2 rfl) ?_
      refine lv_iload_n F.1 F.2.1 dX2_runsTo_17 rfl (lv_at hl 1 rfl) ?_
      refine b_ne (tgt := 23) F dX2_runsTo_18 (by decide) (fun c_13 => ?_) (fun c_13 => ?_)
      · skip
        refine lv_aload_n F.1 F.2.1 dX2_runsTo_23 rfl (lv_at hl 0 rfl) ?_
        refine tGetR (j := 1) F hK hH (tyb ha0 (all1 rfl)) rfl (all1 rfl) clX2 (by decide) wd_2_23 dX2_runsTo_24 (fun q_15 hq_15 _ => ?_)
        refine lv_iload_n F.1 F.2.1 dX2_runsTo_27 rfl (lv_at hl 2 rfl) ?_
        refine tIaldX F hK hH (tyb hq_15 (all1 rfl)) (ixb (n := 12) r_11 rfl rfl) dX2_runsTo_28 (fun z_16 ez_16 => ?_)
        have gz_16 : z_16.toInt = gI D (u_2.toInt.toNat) := by unfold gI; rw [ez_16]; rfl
        have hz_16 : (-2) ≤ z_16.toInt ∧ z_16.toInt ≤ 11 := (by have h9_ := hD (u_2).toNatClampNeg (cl_lt (n := 12) (by omega)); rw [← ez_16] at h9_; exact h9_)
        refine lv_istore_n (lv' := [(3, .int z_16), (0, .ref a0), (2, .int a2), (4, .int u_3)]) F.1 F.2.1 dX2_runsTo_29 rfl hl (by decide) rfl (fun ls hl => ?_)
        obtain ⟨x_17, ex_17, hx_17⟩ := iincB (c := 1) (lo := 1) (hi := 12) r_7 rfl
        refine lv_iinc (v := x_17) (lv' := [(4, .int x_17), (3, .int z_16), (0, .ref a0), (2, .int a2)]) F.1 F.2.1 dX2_runsTo_30 hl (k := 3) rfl ex_17 (by decide) rfl (fun ls hl => ?_)
        refine lv_goto (tgt := 5) F.1 F.2.1 dX2_runsTo_33 (by decide) ?_
        exact ih_5 (z_16, x_17) _ _ _ ⟨(show (12 - x_17.toInt + 1).toNat < n_5 from by omega), hz_16, (wkb hx_17.2 rfl rfl), (show jTo D a2.toInt (12 - (x_17.toInt)).toNat (z_16.toInt) = jTo D a2.toInt 12 a1.toInt from (to_step hcr5_0 (by omega) (by omega) (by omega) (by omega) (by omega) gz_16)), hH, hS, lv_sub hl [2, 3, 1, 0] rfl⟩
      · skip
        have r_14 : 0 ≤ a2.toInt ∧ a2.toInt ≤ 11 := by have h9_ := (i32b a2); omega
        refine lv_iconst (v := 1) F.1 F.2.1 dX2_runsTo_21 (by decide) ?_
        refine topK (a := 1) (by decide) (fun k_18 hk_18 => ?_)
        exact txI F hS dX2_runsTo_22 (nar01 (wkb (eqb hk_18) rfl rfl)) (⟨(wkb (eqb hk_18) rfl rfl), (to_y' hcr5_0 (by omega) (by omega) (by omega) (by omega)), hH⟩)
set_option maxHeartbeats 4000000 in
set_option maxRecDepth 100000 in
theorem c_X2_runsTo_2 (E : Ev) (dA : TD) (dB : TD) (rA : TD) (rc : TD) (rd : TD) (tp : TD) (ya : TD) (yb : TD) (yc : TD) (yd : TD) (ye : TD) (yf : TD) (rC : TD) (rD : TD) (wd1 : TD) (wd3 : TD) (wd4 : TD) (ws1 : TD) (ws3 : TD) (ws4 : TD) (wi1 : TD) (wi3 : TD) (wi4 : TD) (Fb2 : Int × Int) (a : Int) (D : Nat → Int32) (Kn : Nat → Int32) (Q : Nat → Int32) (a0 : Nat) (a1 : Int32) (a2 : Int32) (ha0 : eT E a0 ∈ [27]) (ha1 : 0 ≤ a1.toInt ∧ a1.toInt ≤ 11) (ha : 0 ≤ a ∧ a ≤ 12) (hD : ivP 12 (-2) 11 D) (hKn : ivP 12 (-2147483648) 2147483647 Kn) (hQ : ivP 48 (-2147483648) 2147483647 Q) (hFb2 : 0 ≤ Fb2.1 ∧ Fb2.2 ≤ 14) : TcI E yX2_runsTo cX2_runsTo 5 .boolean ({ frames := 1, cells := 0, slots := 0, locals := 40 }) [.ref a0, .int a1, .int a2] (fun H => TH E (tbC dA dB rA (riverD (.inl (a, a)) (.inl Fb2) (.inl (0, 4)) 32 34 36 40 44 48) rc rd tp ya yb yc yd ye yf rC rD wd1 (xD 12 D) wd3 wd4 ws1 (xD 12 Kn) ws3 ws4 wi1 (xD 48 Q) wi3 wi4) H) (fun v H => (0 ≤ v.toInt ∧ v.toInt ≤ 1) ∧ (v.toInt = jTo D a2.toInt 12 a1.toInt) ∧ TH E (tbC dA dB rA (riverD (.inl (a, a)) (.inl Fb2) (.inl (0, 4)) 32 34 36 40 44 48) rc rd tp ya yb yc yd ye yf rC rD wd1 (xD 12 D) wd3 wd4 ws1 (xD 12 Kn) ws3 ws4 wi1 (xD 48 Q) wi3 wi4) H) := by
  refine teI (by decide) (Nat.le_of_ble_eq_true rfl) ?_
  intro p_ ev_ s mi_ below_ meth cd_ ls F hK hN hO hH hS hl
  have hH : TH E (tbC dA dB rA (riverD (.inl (a, a)) (.inl Fb2) (.inl (0, 4)) 32 34 36 40 44 48) rc rd tp ya yb yc yd ye yf rC rD wd1 (xD 12 D) wd3 wd4 ws1 (xD 12 Kn) ws3 ws4 wi1 (xD 48 Q) wi3 wi4) s.heap := hH
  have hl : lv_has ls 5 [(0, .ref a0), (1, .int a1), (2, .int a2)] := hl
  refine lv_iload_n F.1 F.2.1 dX2_runsTo_0 rfl (lv_at hl 1 rfl) ?_
  refine lv_istore_n (lv' := [(3, .int a1), (0, .ref a0), (1, .int a1), (2, .int a2)]) F.1 F.2.1 dX2_runsTo_1 rfl hl (by decide) rfl (fun ls hl => ?_)
  refine lv_iconst (v := 0) F.1 F.2.1 dX2_runsTo_2 (by decide) ?_
  refine topK (a := 0) (by decide) (fun k_1 hk_1 => ?_)
  refine lv_istore (lv' := [(4, .int k_1), (3, .int a1), (0, .ref a0), (1, .int a1), (2, .int a2)]) F.1 F.2.1 dX2_runsTo_3 hl (by decide) rfl (fun ls hl => ?_)
  refine wloop (σ := Int32 × Int32) (fun n9 x9 H locs ls => (12 - x9.2.toInt + 1).toNat < n9 ∧ ((-2) ≤ x9.1.toInt ∧ x9.1.toInt ≤ 11) ∧ (0 ≤ x9.2.toInt ∧ x9.2.toInt ≤ 12) ∧ (jTo D a2.toInt (12 - (x9.2.toInt)).toNat (x9.1.toInt) = jTo D a2.toInt 12 a1.toInt) ∧ TH E (tbC dA dB rA (riverD (.inl (a, a)) (.inl Fb2) (.inl (0, 4)) 32 34 36 40 44 48) rc rd tp ya yb yc yd ye yf rC rD wd1 (xD 12 D) wd3 wd4 ws1 (xD 12 Kn) ws3 ws4 wi1 (xD 48 Q) wi3 wi4) H ∧ va_S (eA E s.heap.size) s.heap H locs ∧ lv_has ls 5 [(0, .ref a0), (2, .int a2), (3, .int x9.1), (4, .int x9.2)]) ?_ (fun x9 H locs ls h => absurd h.1 (Nat.not_lt_zero _)) _ (a1, k_1) ⟨Nat.lt_succ_self _, (wkb ha1 rfl rfl), (wkb (eqb hk_1) rfl rfl), (show jTo D a2.toInt (12 - (k_1.toInt)).toNat (a1.toInt) = jTo D a2.toInt 12 a1.toInt from (to_0 (by omega) rfl)), hH, hS, lv_sub hl [2, 4, 1, 0] rfl⟩
  intro n_5 ih_5 ⟨u_2, u_3⟩ H locs ls ⟨hm_5, hu_2, hu_3, hcr5_0, hH, hS, hl⟩
  have hm_5 : (12 - u_3.toInt + 1).toNat < n_5 + 1 := hm_5
  have hu_2 : ((-2) ≤ u_2.toInt ∧ u_2.toInt ≤ 11) := hu_2
  have hu_3 : (0 ≤ u_3.toInt ∧ u_3.toInt ≤ 12) := hu_3
  have hcr5_0 : (jTo D a2.toInt (12 - (u_3.toInt)).toNat (u_2.toInt) = jTo D a2.toInt 12 a1.toInt) := hcr5_0
  have hH : TH E (tbC dA dB rA (riverD (.inl (a, a)) (.inl Fb2) (.inl (0, 4)) 32 34 36 40 44 48) rc rd tp ya yb yc yd ye yf rC rD wd1 (xD 12 D) wd3 wd4 ws1 (xD 12 Kn) ws3 ws4 wi1 (xD 48 Q) wi3 wi4) H := hH
  have hl : lv_has ls 5 [(0, .ref a0), (2, .int a2), (3, .int u_2), (4, .int u_3)] := hl
  refine lv_iload F.1 F.2.1 dX2_runsTo_5 (lv_at hl 3 rfl) ?_
  refine lv_bipush (v := 12) F.1 F.2.1 dX2_runsTo_7 (by decide) ?_
  refine topK (a := 12) (by decide) (fun k_4 hk_4 => ?_)
  refine b_ge (tgt := 36) F dX2_runsTo_9 (by decide) (fun c_5 => ?_) (fun c_5 => ?_)
  · skip
    have r_6 : 12 ≤ u_3.toInt ∧ u_3.toInt ≤ 12 := by have h9_ := hu_3; omega
    refine lv_iconst (v := 0) F.1 F.2.1 dX2_runsTo_36 (by decide) ?_
    refine topK (a := 0) (by decide) (fun k_8 hk_8 => ?_)
    exact txI F hS dX2_runsTo_37 (nar01 (wkb (eqb hk_8) rfl rfl)) (⟨(wkb (eqb hk_8) rfl rfl), (to_n' hcr5_0 (by omega) (by omega)), hH⟩)
  · skip
    have r_7 : 0 ≤ u_3.toInt ∧ u_3.toInt ≤ 11 := by have h9_ := hu_3; omega
    refine lv_iload_n F.1 F.2.1 dX2_runsTo_12 rfl (lv_at hl 2 rfl) ?_
    refine z_lt (tgt := 36) F dX2_runsTo_13 (by decide) (fun c_9 => ?_) (fun c_9 => ?_)
    · skip
      have r_10 : (-2) ≤ u_2.toInt ∧ u_2.toInt ≤ (-1) := by have h9_ := hu_2; omega
      refine lv_iconst (v := 0) F.1 F.2.1 dX2_runsTo_36 (by decide) ?_
      refine topK (a := 0) (by decide) (fun k_12 hk_12 => ?_)
      exact txI F hS dX2_runsTo_37 (nar01 (wkb (eqb hk_12) rfl rfl)) (⟨(wkb (eqb hk_12) rfl rfl), (to_n' hcr5_0 (by omega) (by omega)), hH⟩)
    · skip
      have r_11 : 0 ≤ u_2.toInt ∧ u_2.toInt ≤ 11 := by have h9_ := hu_2; omega
      refine lv_iload_n F.1 F.2.1 dX2_runsTo_16 rfl (lv_at hl 2 rfl) ?_
      refine lv_iload_n F.1 F.2.1 dX2_runsTo_17 rfl (lv_at hl 1 rfl) ?_
      refine b_ne (tgt := 23) F dX2_runsTo_18 (by decide) (fun c_13 => ?_) (fun c_13 => ?_)
      · skip
        refine lv_aload_n F.1 F.2.1 dX2_runsTo_23 rfl (lv_at hl 0 rfl) ?_
        refine tGetR (j := 1) F hK hH (tyb ha0 (all1 rfl)) rfl (all1 rfl) clX2 (by decide) wd_2_23 dX2_runsTo_24 (fun q_15 hq_15 _ => ?_)
        refine lv_iload_n F.1 F.2.1 dX2_runsTo_27 rfl (lv_at hl 2 rfl) ?_
        refine tIaldX F hK hH (tyb hq_15 (all1 rfl)) (ixb (n := 12) r_11 rfl rfl) dX2_runsTo_28 (fun z_16 ez_16 => ?_)
        have gz_16 : z_16.toInt = gI D (u_2.toInt.toNat) := by unfold gI; rw [ez_16]; rfl
        have hz_16 : (-2) ≤ z_16.toInt ∧ z_16.toInt ≤ 11 := (by have h9_ := hD (u_2).toNatClampNeg (cl_lt (n := 12) (by omega)); rw [← ez_16] at h9_; exact h9_)
        refine lv_istore_n (lv' := [(3, .int z_16), (0, .ref a0), (2, .int a2), (4, .int u_3)]) F.1 F.2.1 dX2_runsTo_29 rfl hl (by decide) rfl (fun ls hl => ?_)
        obtain ⟨x_17, ex_17, hx_17⟩ := iincB (c := 1) (lo := 1) (hi := 12) r_7 rfl
        refine lv_iinc (v := x_17) (lv' := [(4, .int x_17), (3, .int z_16), (0, .ref a0), (2, .int a2)]) F.1 F.2.1 dX2_runsTo_30 hl (k := 3) rfl ex_17 (by decide) rfl (fun ls hl => ?_)
        refine lv_goto (tgt := 5) F.1 F.2.1 dX2_runsTo_33 (by decide) ?_
        exact ih_5 (z_16, x_17) _ _ _ ⟨(show (12 - x_17.toInt + 1).toNat < n_5 from by omega), hz_16, (wkb hx_17.2 rfl rfl), (show jTo D a2.toInt (12 - (x_17.toInt)).toNat (z_16.toInt) = jTo D a2.toInt 12 a1.toInt from (to_step hcr5_0 (by omega) (by omega) (by omega) (by omega) (by omega) gz_16)), hH, hS, lv_sub hl [2, 3, 1, 0] rfl⟩
      · skip
        have r_14 : 0 ≤ a2.toInt ∧ a2.toInt ≤ 11 := by have h9_ := (i32b a2); omega
        refine lv_iconst (v := 1) F.1 F.2.1 dX2_runsTo_21 (by decide) ?_
        refine topK (a := 1) (by decide) (fun k_18 hk_18 => ?_)
        exact txI F hS dX2_runsTo_22 (nar01 (wkb (eqb hk_18) rfl rfl)) (⟨(wkb (eqb hk_18) rfl rfl), (to_y' hcr5_0 (by omega) (by omega) (by omega) (by omega)), hH⟩)
set_option maxHeartbeats 4000000 in
set_option maxRecDepth 100000 in
theorem c_X2_countToMouth_1 (E : Ev) (dA : TD) (dB : TD) (rB : TD) (rc : TD) (rd : TD) (tp : TD) (ya : TD) (yb : TD) (yc : TD) (yd : TD) (ye : TD) (yf : TD) (rC : TD) (rD : TD) (wd2 : TD) (wd3 : TD) (wd4 : TD) (ws2 : TD) (ws3 : TD) (ws4 : TD) (wi2 : TD) (wi3 : TD) (wi4 : TD) (Fb1 : Int × Int) (a : Int) (D : Nat → Int32) (Kn : Nat → Int32) (Q : Nat → Int32) (a0 : Nat) (a1 : Int32) (ha0 : eT E a0 ∈ [26]) (ha1 : 0 ≤ a1.toInt ∧ a1.toInt ≤ 11) (ha : 0 ≤ a ∧ a ≤ 12) (hD : ivP 12 (-2) 11 D) (hKn : ivP 12 (-2147483648) 2147483647 Kn) (hQ : ivP 48 (-2147483648) 2147483647 Q) (hFb1 : 0 ≤ Fb1.1 ∧ Fb1.2 ≤ 14) : TcI E yX2_countToMouth cX2_countToMouth 5 .int ({ frames := 1, cells := 0, slots := 0, locals := 40 }) [.ref a0, .int a1] (fun H => TH E (tbC dA dB (riverD (.inl (a, a)) (.inl Fb1) (.inl (0, 4)) 31 33 35 39 43 47) rB rc rd tp ya yb yc yd ye yf rC rD (xD 12 D) wd2 wd3 wd4 (xD 12 Kn) ws2 ws3 ws4 (xD 48 Q) wi2 wi3 wi4) H) (fun v H => ((-2147483648) ≤ v.toInt ∧ v.toInt ≤ 2147483647) ∧ (v.toInt = jFar D 12 a1.toInt) ∧ TH E (tbC dA dB (riverD (.inl (a, a)) (.inl Fb1) (.inl (0, 4)) 31 33 35 39 43 47) rB rc rd tp ya yb yc yd ye yf rC rD (xD 12 D) wd2 wd3 wd4 (xD 12 Kn) ws2 ws3 ws4 (xD 48 Q) wi2 wi3 wi4) H) := by
  refine teI (by decide) (Nat.le_of_ble_eq_true rfl) ?_
  intro p_ ev_ s mi_ below_ meth cd_ ls F hK hN hO hH hS hl
  have hH : TH E (tbC dA dB (riverD (.inl (a, a)) (.inl Fb1) (.inl (0, 4)) 31 33 35 39 43 47) rB rc rd tp ya yb yc yd ye yf rC rD (xD 12 D) wd2 wd3 wd4 (xD 12 Kn) ws2 ws3 ws4 (xD 48 Q) wi2 wi3 wi4) s.heap := hH
  have hl : lv_has ls 5 [(0, .ref a0), (1, .int a1)] := hl
  refine lv_iload_n F.1 F.2.1 dX2_countToMouth_0 rfl (lv_at hl 1 rfl) ?_
  refine lv_istore_n (lv' := [(2, .int a1), (0, .ref a0), (1, .int a1)]) F.1 F.2.1 dX2_countToMouth_1 rfl hl (by decide) rfl (fun ls hl => ?_)
  refine lv_iconst (v := 0) F.1 F.2.1 dX2_countToMouth_2 (by decide) ?_
  refine topK (a := 0) (by decide) (fun k_1 hk_1 => ?_)
  refine lv_istore_n (lv' := [(3, .int k_1), (2, .int a1), (0, .ref a0), (1, .int a1)]) F.1 F.2.1 dX2_countToMouth_3 rfl hl (by decide) rfl (fun ls hl => ?_)
  refine lv_iconst (v := 0) F.1 F.2.1 dX2_countToMouth_4 (by decide) ?_
  refine topK (a := 0) (by decide) (fun k_2 hk_2 => ?_)
  refine lv_istore (lv' := [(4, .int k_2), (3, .int k_1), (2, .int a1), (0, .ref a0), (1, .int a1)]) F.1 F.2.1 dX2_countToMouth_5 hl (by decide) rfl (fun ls hl => ?_)
  refine wloop (σ := Int32 × Int32 × Int32) (fun n9 x9 H locs ls => (12 - x9.2.2.toInt + 1).toNat < n9 ∧ ((-2) ≤ x9.1.toInt ∧ x9.1.toInt ≤ 11) ∧ (0 ≤ x9.2.1.toInt ∧ x9.2.1.toInt ≤ 12) ∧ (0 ≤ x9.2.2.toInt ∧ x9.2.2.toInt ≤ 12) ∧ (x9.2.1.toInt + jFar D (12 - (x9.2.2.toInt)).toNat (x9.1.toInt) = jFar D 12 a1.toInt) ∧ (x9.2.1.toInt ≤ x9.2.2.toInt) ∧ TH E (tbC dA dB (riverD (.inl (a, a)) (.inl Fb1) (.inl (0, 4)) 31 33 35 39 43 47) rB rc rd tp ya yb yc yd ye yf rC rD (xD 12 D) wd2 wd3 wd4 (xD 12 Kn) ws2 ws3 ws4 (xD 48 Q) wi2 wi3 wi4) H ∧ va_S (eA E s.heap.size) s.heap H locs ∧ lv_has ls 5 [(0, .ref a0), (2, .int x9.1), (3, .int x9.2.1), (4, .int x9.2.2)]) ?_ (fun x9 H locs ls h => absurd h.1 (Nat.not_lt_zero _)) _ (a1, k_1, k_2) ⟨Nat.lt_succ_self _, (wkb ha1 rfl rfl), (wkb (eqb hk_1) rfl rfl), (wkb (eqb hk_2) rfl rfl), (show k_1.toInt + jFar D (12 - (k_2.toInt)).toNat (a1.toInt) = jFar D 12 a1.toInt from (far_0 (by omega) (by omega) rfl)), (show k_1.toInt ≤ k_2.toInt from by omega), hH, hS, lv_sub hl [3, 2, 1, 0] rfl⟩
  intro n_7 ih_7 ⟨u_3, u_4, u_5⟩ H locs ls ⟨hm_7, hu_3, hu_4, hu_5, hcr7_0, hcr7_1, hH, hS, hl⟩
  have hm_7 : (12 - u_5.toInt + 1).toNat < n_7 + 1 := hm_7
  have hu_3 : ((-2) ≤ u_3.toInt ∧ u_3.toInt ≤ 11) := hu_3
  have hu_4 : (0 ≤ u_4.toInt ∧ u_4.toInt ≤ 12) := hu_4
  have hu_5 : (0 ≤ u_5.toInt ∧ u_5.toInt ≤ 12) := hu_5
  have hcr7_0 : (u_4.toInt + jFar D (12 - (u_5.toInt)).toNat (u_3.toInt) = jFar D 12 a1.toInt) := hcr7_0
  have hcr7_1 : (u_4.toInt ≤ u_5.toInt) := hcr7_1
  have hH : TH E (tbC dA dB (riverD (.inl (a, a)) (.inl Fb1) (.inl (0, 4)) 31 33 35 39 43 47) rB rc rd tp ya yb yc yd ye yf rC rD (xD 12 D) wd2 wd3 wd4 (xD 12 Kn) ws2 ws3 ws4 (xD 48 Q) wi2 wi3 wi4) H := hH
  have hl : lv_has ls 5 [(0, .ref a0), (2, .int u_3), (3, .int u_4), (4, .int u_5)] := hl
  refine lv_iload F.1 F.2.1 dX2_countToMouth_7 (lv_at hl 3 rfl) ?_
  refine lv_bipush (v := 12) F.1 F.2.1 dX2_countToMouth_9 (by decide) ?_
  refine topK (a := 12) (by decide) (fun k_6 hk_6 => ?_)
  refine b_ge (tgt := 34) F dX2_countToMouth_11 (by decide) (fun c_7 => ?_) (fun c_7 => ?_)
  · skip
    have r_8 : 12 ≤ u_5.toInt ∧ u_5.toInt ≤ 12 := by have h9_ := hu_5; omega
    refine lv_iload_n F.1 F.2.1 dX2_countToMouth_34 rfl (lv_at hl 2 rfl) ?_
    exact txI F hS dX2_countToMouth_35 rfl (⟨(wkb hu_4 rfl rfl), (far_end hcr7_0 (by omega)), hH⟩)
  · skip
    have r_9 : 0 ≤ u_5.toInt ∧ u_5.toInt ≤ 11 := by have h9_ := hu_5; omega
    refine lv_iload_n F.1 F.2.1 dX2_countToMouth_14 rfl (lv_at hl 1 rfl) ?_
    refine z_lt (tgt := 34) F dX2_countToMouth_15 (by decide) (fun c_10 => ?_) (fun c_10 => ?_)
    · skip
      have r_11 : (-2) ≤ u_3.toInt ∧ u_3.toInt ≤ (-1) := by have h9_ := hu_3; omega
      refine lv_iload_n F.1 F.2.1 dX2_countToMouth_34 rfl (lv_at hl 2 rfl) ?_
      exact txI F hS dX2_countToMouth_35 rfl (⟨(wkb hu_4 rfl rfl), (far_end hcr7_0 (by omega)), hH⟩)
    · skip
      have r_12 : 0 ≤ u_3.toInt ∧ u_3.toInt ≤ 11 := by have h9_ := hu_3; omega
      obtain ⟨x_13, ex_13, hx_13⟩ := iincB (c := 1) (lo := 1) (hi := 13) hu_4 rfl
      refine lv_iinc (v := x_13) (lv' := [(3, .int x_13), (0, .ref a0), (2, .int u_3), (4, .int u_5)]) F.1 F.2.1 dX2_countToMouth_18 hl (k := 2) rfl ex_13 (by decide) rfl (fun ls hl => ?_)
      refine lv_aload_n F.1 F.2.1 dX2_countToMouth_21 rfl (lv_at hl 1 rfl) ?_
      refine tGetR (j := 1) F hK hH (tyb ha0 (all1 rfl)) rfl (all1 rfl) clX2 (by decide) wd_2_23 dX2_countToMouth_22 (fun q_14 hq_14 _ => ?_)
      refine lv_iload_n F.1 F.2.1 dX2_countToMouth_25 rfl (lv_at hl 2 rfl) ?_
      refine tIaldX F hK hH (tyb hq_14 (all1 rfl)) (ixb (n := 12) r_12 rfl rfl) dX2_countToMouth_26 (fun z_15 ez_15 => ?_)
      have gz_15 : z_15.toInt = gI D (u_3.toInt.toNat) := by unfold gI; rw [ez_15]; rfl
      have hz_15 : (-2) ≤ z_15.toInt ∧ z_15.toInt ≤ 11 := (by have h9_ := hD (u_3).toNatClampNeg (cl_lt (n := 12) (by omega)); rw [← ez_15] at h9_; exact h9_)
      refine lv_istore_n (lv' := [(2, .int z_15), (3, .int x_13), (0, .ref a0), (4, .int u_5)]) F.1 F.2.1 dX2_countToMouth_27 rfl hl (by decide) rfl (fun ls hl => ?_)
      obtain ⟨x_16, ex_16, hx_16⟩ := iincB (c := 1) (lo := 1) (hi := 12) r_9 rfl
      refine lv_iinc (v := x_16) (lv' := [(4, .int x_16), (2, .int z_15), (3, .int x_13), (0, .ref a0)]) F.1 F.2.1 dX2_countToMouth_28 hl (k := 3) rfl ex_16 (by decide) rfl (fun ls hl => ?_)
      refine lv_goto (tgt := 7) F.1 F.2.1 dX2_countToMouth_31 (by decide) ?_
      exact ih_7 (z_15, x_13, x_16) _ _ _ ⟨(show (12 - x_16.toInt + 1).toNat < n_7 from by omega), hz_15, (show 0 ≤ x_13.toInt ∧ x_13.toInt ≤ 12 from by omega), (wkb hx_16.2 rfl rfl), (show x_13.toInt + jFar D (12 - (x_16.toInt)).toNat (z_15.toInt) = jFar D 12 a1.toInt from (far_step hcr7_0 (by omega) (by omega) (by omega) (by omega) (by omega) gz_15)), (show x_13.toInt ≤ x_16.toInt from by omega), hH, hS, lv_sub hl [3, 1, 2, 0] rfl⟩
set_option maxHeartbeats 4000000 in
set_option maxRecDepth 100000 in
theorem c_X2_countToMouth_2 (E : Ev) (dA : TD) (dB : TD) (rA : TD) (rc : TD) (rd : TD) (tp : TD) (ya : TD) (yb : TD) (yc : TD) (yd : TD) (ye : TD) (yf : TD) (rC : TD) (rD : TD) (wd1 : TD) (wd3 : TD) (wd4 : TD) (ws1 : TD) (ws3 : TD) (ws4 : TD) (wi1 : TD) (wi3 : TD) (wi4 : TD) (Fb2 : Int × Int) (a : Int) (D : Nat → Int32) (Kn : Nat → Int32) (Q : Nat → Int32) (a0 : Nat) (a1 : Int32) (ha0 : eT E a0 ∈ [27]) (ha1 : 0 ≤ a1.toInt ∧ a1.toInt ≤ 11) (ha : 0 ≤ a ∧ a ≤ 12) (hD : ivP 12 (-2) 11 D) (hKn : ivP 12 (-2147483648) 2147483647 Kn) (hQ : ivP 48 (-2147483648) 2147483647 Q) (hFb2 : 0 ≤ Fb2.1 ∧ Fb2.2 ≤ 14) : TcI E yX2_countToMouth cX2_countToMouth 5 .int ({ frames := 1, cells := 0, slots := 0, locals := 40 }) [.ref a0, .int a1] (fun H => TH E (tbC dA dB rA (riverD (.inl (a, a)) (.inl Fb2) (.inl (0, 4)) 32 34 36 40 44 48) rc rd tp ya yb yc yd ye yf rC rD wd1 (xD 12 D) wd3 wd4 ws1 (xD 12 Kn) ws3 ws4 wi1 (xD 48 Q) wi3 wi4) H) (fun v H => ((-2147483648) ≤ v.toInt ∧ v.toInt ≤ 2147483647) ∧ (v.toInt = jFar D 12 a1.toInt) ∧ TH E (tbC dA dB rA (riverD (.inl (a, a)) (.inl Fb2) (.inl (0, 4)) 32 34 36 40 44 48) rc rd tp ya yb yc yd ye yf rC rD wd1 (xD 12 D) wd3 wd4 ws1 (xD 12 Kn) ws3 ws4 wi1 (xD 48 Q) wi3 wi4) H) := by
  refine teI (by decide) (Nat.le_of_ble_eq_true rfl) ?_
  intro p_ ev_ s mi_ below_ meth cd_ ls F hK hN hO hH hS hl
  have hH : TH E (tbC dA dB rA (riverD (.inl (a, a)) (.inl Fb2) (.inl (0, 4)) 32 34 36 40 44 48) rc rd tp ya yb yc yd ye yf rC rD wd1 (xD 12 D) wd3 wd4 ws1 (xD 12 Kn) ws3 ws4 wi1 (xD 48 Q) wi3 wi4) s.heap := hH
  have hl : lv_has ls 5 [(0, .ref a0), (1, .int a1)] := hl
  refine lv_iload_n F.1 F.2.1 dX2_countToMouth_0 rfl (lv_at hl 1 rfl) ?_
  refine lv_istore_n (lv' := [(2, .int a1), (0, .ref a0), (1, .int a1)]) F.1 F.2.1 dX2_countToMouth_1 rfl hl (by decide) rfl (fun ls hl => ?_)
  refine lv_iconst (v := 0) F.1 F.2.1 dX2_countToMouth_2 (by decide) ?_
  refine topK (a := 0) (by decide) (fun k_1 hk_1 => ?_)
  refine lv_istore_n (lv' := [(3, .int k_1), (2, .int a1), (0, .ref a0), (1, .int a1)]) F.1 F.2.1 dX2_countToMouth_3 rfl hl (by decide) rfl (fun ls hl => ?_)
  refine lv_iconst (v := 0) F.1 F.2.1 dX2_countToMouth_4 (by decide) ?_
  refine topK (a := 0) (by decide) (fun k_2 hk_2 => ?_)
  refine lv_istore (lv' := [(4, .int k_2), (3, .int k_1), (2, .int a1), (0, .ref a0), (1, .int a1)]) F.1 F.2.1 dX2_countToMouth_5 hl (by decide) rfl (fun ls hl => ?_)
  refine wloop (σ := Int32 × Int32 × Int32) (fun n9 x9 H locs ls => (12 - x9.2.2.toInt + 1).toNat < n9 ∧ ((-2) ≤ x9.1.toInt ∧ x9.1.toInt ≤ 11) ∧ (0 ≤ x9.2.1.toInt ∧ x9.2.1.toInt ≤ 12) ∧ (0 ≤ x9.2.2.toInt ∧ x9.2.2.toInt ≤ 12) ∧ (x9.2.1.toInt + jFar D (12 - (x9.2.2.toInt)).toNat (x9.1.toInt) = jFar D 12 a1.toInt) ∧ (x9.2.1.toInt ≤ x9.2.2.toInt) ∧ TH E (tbC dA dB rA (riverD (.inl (a, a)) (.inl Fb2) (.inl (0, 4)) 32 34 36 40 44 48) rc rd tp ya yb yc yd ye yf rC rD wd1 (xD 12 D) wd3 wd4 ws1 (xD 12 Kn) ws3 ws4 wi1 (xD 48 Q) wi3 wi4) H ∧ va_S (eA E s.heap.size) s.heap H locs ∧ lv_has ls 5 [(0, .ref a0), (2, .int x9.1), (3, .int x9.2.1), (4, .int x9.2.2)]) ?_ (fun x9 H locs ls h => absurd h.1 (Nat.not_lt_zero _)) _ (a1, k_1, k_2) ⟨Nat.lt_succ_self _, (wkb ha1 rfl rfl), (wkb (eqb hk_1) rfl rfl), (wkb (eqb hk_2) rfl rfl), (show k_1.toInt + jFar D (12 - (k_2.toInt)).toNat (a1.toInt) = jFar D 12 a1.toInt from (far_0 (by omega) (by omega) rfl)), (show k_1.toInt ≤ k_2.toInt from by omega), hH, hS, lv_sub hl [3, 2, 1, 0] rfl⟩
  intro n_7 ih_7 ⟨u_3, u_4, u_5⟩ H locs ls ⟨hm_7, hu_3, hu_4, hu_5, hcr7_0, hcr7_1, hH, hS, hl⟩
  have hm_7 : (12 - u_5.toInt + 1).toNat < n_7 + 1 := hm_7
  have hu_3 : ((-2) ≤ u_3.toInt ∧ u_3.toInt ≤ 11) := hu_3
  have hu_4 : (0 ≤ u_4.toInt ∧ u_4.toInt ≤ 12) := hu_4
  have hu_5 : (0 ≤ u_5.toInt ∧ u_5.toInt ≤ 12) := hu_5
  have hcr7_0 : (u_4.toInt + jFar D (12 - (u_5.toInt)).toNat (u_3.toInt) = jFar D 12 a1.toInt) := hcr7_0
  have hcr7_1 : (u_4.toInt ≤ u_5.toInt) := hcr7_1
  have hH : TH E (tbC dA dB rA (riverD (.inl (a, a)) (.inl Fb2) (.inl (0, 4)) 32 34 36 40 44 48) rc rd tp ya yb yc yd ye yf rC rD wd1 (xD 12 D) wd3 wd4 ws1 (xD 12 Kn) ws3 ws4 wi1 (xD 48 Q) wi3 wi4) H := hH
  have hl : lv_has ls 5 [(0, .ref a0), (2, .int u_3), (3, .int u_4), (4, .int u_5)] := hl
  refine lv_iload F.1 F.2.1 dX2_countToMouth_7 (lv_at hl 3 rfl) ?_
  refine lv_bipush (v := 12) F.1 F.2.1 dX2_countToMouth_9 (by decide) ?_
  refine topK (a := 12) (by decide) (fun k_6 hk_6 => ?_)
  refine b_ge (tgt := 34) F dX2_countToMouth_11 (by decide) (fun c_7 => ?_) (fun c_7 => ?_)
  · skip
    have r_8 : 12 ≤ u_5.toInt ∧ u_5.toInt ≤ 12 := by have h9_ := hu_5; omega
    refine lv_iload_n F.1 F.2.1 dX2_countToMouth_34 rfl (lv_at hl 2 rfl) ?_
    exact txI F hS dX2_countToMouth_35 rfl (⟨(wkb hu_4 rfl rfl), (far_end hcr7_0 (by omega)), hH⟩)
  · skip
    have r_9 : 0 ≤ u_5.toInt ∧ u_5.toInt ≤ 11 := by have h9_ := hu_5; omega
    refine lv_iload_n F.1 F.2.1 dX2_countToMouth_14 rfl (lv_at hl 1 rfl) ?_
    refine z_lt (tgt := 34) F dX2_countToMouth_15 (by decide) (fun c_10 => ?_) (fun c_10 => ?_)
    · skip
      have r_11 : (-2) ≤ u_3.toInt ∧ u_3.toInt ≤ (-1) := by have h9_ := hu_3; omega
      refine lv_iload_n F.1 F.2.1 dX2_countToMouth_34 rfl (lv_at hl 2 rfl) ?_
      exact txI F hS dX2_countToMouth_35 rfl (⟨(wkb hu_4 rfl rfl), (far_end hcr7_0 (by omega)), hH⟩)
    · skip
      have r_12 : 0 ≤ u_3.toInt ∧ u_3.toInt ≤ 11 := by have h9_ := hu_3; omega
      obtain ⟨x_13, ex_13, hx_13⟩ := iincB (c := 1) (lo := 1) (hi := 13) hu_4 rfl
      refine lv_iinc (v := x_13) (lv' := [(3, .int x_13), (0, .ref a0), (2, .int u_3), (4, .int u_5)]) F.1 F.2.1 dX2_countToMouth_18 hl (k := 2) rfl ex_13 (by decide) rfl (fun ls hl => ?_)
      refine lv_aload_n F.1 F.2.1 dX2_countToMouth_21 rfl (lv_at hl 1 rfl) ?_
      refine tGetR (j := 1) F hK hH (tyb ha0 (all1 rfl)) rfl (all1 rfl) clX2 (by decide) wd_2_23 dX2_countToMouth_22 (fun q_14 hq_14 _ => ?_)
      refine lv_iload_n F.1 F.2.1 dX2_countToMouth_25 rfl (lv_at hl 2 rfl) ?_
      refine tIaldX F hK hH (tyb hq_14 (all1 rfl)) (ixb (n := 12) r_12 rfl rfl) dX2_countToMouth_26 (fun z_15 ez_15 => ?_)
      have gz_15 : z_15.toInt = gI D (u_3.toInt.toNat) := by unfold gI; rw [ez_15]; rfl
      have hz_15 : (-2) ≤ z_15.toInt ∧ z_15.toInt ≤ 11 := (by have h9_ := hD (u_3).toNatClampNeg (cl_lt (n := 12) (by omega)); rw [← ez_15] at h9_; exact h9_)
      refine lv_istore_n (lv' := [(2, .int z_15), (3, .int x_13), (0, .ref a0), (4, .int u_5)]) F.1 F.2.1 dX2_countToMouth_27 rfl hl (by decide) rfl (fun ls hl => ?_)
      obtain ⟨x_16, ex_16, hx_16⟩ := iincB (c := 1) (lo := 1) (hi := 12) r_9 rfl
      refine lv_iinc (v := x_16) (lv' := [(4, .int x_16), (2, .int z_15), (3, .int x_13), (0, .ref a0)]) F.1 F.2.1 dX2_countToMouth_28 hl (k := 3) rfl ex_16 (by decide) rfl (fun ls hl => ?_)
      refine lv_goto (tgt := 7) F.1 F.2.1 dX2_countToMouth_31 (by decide) ?_
      exact ih_7 (z_15, x_13, x_16) _ _ _ ⟨(show (12 - x_16.toInt + 1).toNat < n_7 from by omega), hz_15, (show 0 ≤ x_13.toInt ∧ x_13.toInt ≤ 12 from by omega), (wkb hx_16.2 rfl rfl), (show x_13.toInt + jFar D (12 - (x_16.toInt)).toNat (z_15.toInt) = jFar D 12 a1.toInt from (far_step hcr7_0 (by omega) (by omega) (by omega) (by omega) (by omega) gz_15)), (show x_13.toInt ≤ x_16.toInt from by omega), hH, hS, lv_sub hl [3, 1, 2, 0] rfl⟩
set_option maxHeartbeats 4000000 in
set_option maxRecDepth 100000 in
theorem c_X2_countInto_1 (E : Ev) (dA : TD) (dB : TD) (rB : TD) (rc : TD) (rd : TD) (tp : TD) (ya : TD) (yb : TD) (yc : TD) (yd : TD) (ye : TD) (yf : TD) (rC : TD) (rD : TD) (wd2 : TD) (wd3 : TD) (wd4 : TD) (ws2 : TD) (ws3 : TD) (ws4 : TD) (wi2 : TD) (wi3 : TD) (wi4 : TD) (Fb1 : Int × Int) (a : Int) (D : Nat → Int32) (Kn : Nat → Int32) (Q : Nat → Int32) (a0 : Nat) (a1 : Int32) (ha0 : eT E a0 ∈ [26]) (ha : 0 ≤ a ∧ a ≤ 12) (hD : ivP 12 (-2) 11 D) (hKn : ivP 12 (-2147483648) 2147483647 Kn) (hQ : ivP 48 (-2147483648) 2147483647 Q) (hFb1 : 0 ≤ Fb1.1 ∧ Fb1.2 ≤ 14) : TcI E yX2_countInto cX2_countInto 4 .int ({ frames := 1, cells := 0, slots := 0, locals := 40 }) [.ref a0, .int a1] (fun H => TH E (tbC dA dB (riverD (.inl (a, a)) (.inl Fb1) (.inl (0, 4)) 31 33 35 39 43 47) rB rc rd tp ya yb yc yd ye yf rC rD (xD 12 D) wd2 wd3 wd4 (xD 12 Kn) ws2 ws3 ws4 (xD 48 Q) wi2 wi3 wi4) H) (fun v H => ((-2147483648) ≤ v.toInt ∧ v.toInt ≤ 2147483647) ∧ (v.toInt = jCnt D a1.toInt a.toNat) ∧ TH E (tbC dA dB (riverD (.inl (a, a)) (.inl Fb1) (.inl (0, 4)) 31 33 35 39 43 47) rB rc rd tp ya yb yc yd ye yf rC rD (xD 12 D) wd2 wd3 wd4 (xD 12 Kn) ws2 ws3 ws4 (xD 48 Q) wi2 wi3 wi4) H) := by
  refine teI (by decide) (Nat.le_of_ble_eq_true rfl) ?_
  intro p_ ev_ s mi_ below_ meth cd_ ls F hK hN hO hH hS hl
  have hH : TH E (tbC dA dB (riverD (.inl (a, a)) (.inl Fb1) (.inl (0, 4)) 31 33 35 39 43 47) rB rc rd tp ya yb yc yd ye yf rC rD (xD 12 D) wd2 wd3 wd4 (xD 12 Kn) ws2 ws3 ws4 (xD 48 Q) wi2 wi3 wi4) s.heap := hH
  have hl : lv_has ls 4 [(0, .ref a0), (1, .int a1)] := hl
  refine lv_iconst (v := 0) F.1 F.2.1 dX2_countInto_0 (by decide) ?_
  refine topK (a := 0) (by decide) (fun k_1 hk_1 => ?_)
  refine lv_istore_n (lv' := [(2, .int k_1), (0, .ref a0), (1, .int a1)]) F.1 F.2.1 dX2_countInto_1 rfl hl (by decide) rfl (fun ls hl => ?_)
  refine lv_iconst (v := 0) F.1 F.2.1 dX2_countInto_2 (by decide) ?_
  refine topK (a := 0) (by decide) (fun k_2 hk_2 => ?_)
  refine lv_istore_n (lv' := [(3, .int k_2), (2, .int k_1), (0, .ref a0), (1, .int a1)]) F.1 F.2.1 dX2_countInto_3 rfl hl (by decide) rfl (fun ls hl => ?_)
  refine wloop (σ := Int32 × Int32) (fun n9 x9 H locs ls => (12 - x9.2.toInt + 1).toNat < n9 ∧ (0 ≤ x9.1.toInt ∧ x9.1.toInt ≤ 12) ∧ (0 ≤ x9.2.toInt ∧ x9.2.toInt ≤ 12) ∧ (x9.1.toInt = jCnt D a1.toInt (x9.2.toInt).toNat) ∧ (x9.1.toInt ≤ x9.2.toInt) ∧ (x9.2.toInt ≤ a) ∧ TH E (tbC dA dB (riverD (.inl (a, a)) (.inl Fb1) (.inl (0, 4)) 31 33 35 39 43 47) rB rc rd tp ya yb yc yd ye yf rC rD (xD 12 D) wd2 wd3 wd4 (xD 12 Kn) ws2 ws3 ws4 (xD 48 Q) wi2 wi3 wi4) H ∧ va_S (eA E s.heap.size) s.heap H locs ∧ lv_has ls 4 [(0, .ref a0), (1, .int a1), (2, .int x9.1), (3, .int x9.2)]) ?_ (fun x9 H locs ls h => absurd h.1 (Nat.not_lt_zero _)) _ (k_1, k_2) ⟨Nat.lt_succ_self _, (wkb (eqb hk_1) rfl rfl), (wkb (eqb hk_2) rfl rfl), (show k_1.toInt = jCnt D a1.toInt (k_2.toInt).toNat from (cnt_0 (by omega) (by omega))), (show k_1.toInt ≤ k_2.toInt from by omega), (show k_2.toInt ≤ a from by omega), hH, hS, lv_sub hl [2, 3, 1, 0] rfl⟩
  intro n_4 ih_4 ⟨u_3, u_4⟩ H locs ls ⟨hm_4, hu_3, hu_4, hcr4_0, hcr4_1, hcr4_2, hH, hS, hl⟩
  have hm_4 : (12 - u_4.toInt + 1).toNat < n_4 + 1 := hm_4
  have hu_3 : (0 ≤ u_3.toInt ∧ u_3.toInt ≤ 12) := hu_3
  have hu_4 : (0 ≤ u_4.toInt ∧ u_4.toInt ≤ 12) := hu_4
  have hcr4_0 : (u_3.toInt = jCnt D a1.toInt (u_4.toInt).toNat) := hcr4_0
  have hcr4_1 : (u_3.toInt ≤ u_4.toInt) := hcr4_1
  have hcr4_2 : (u_4.toInt ≤ a) := hcr4_2
  have hH : TH E (tbC dA dB (riverD (.inl (a, a)) (.inl Fb1) (.inl (0, 4)) 31 33 35 39 43 47) rB rc rd tp ya yb yc yd ye yf rC rD (xD 12 D) wd2 wd3 wd4 (xD 12 Kn) ws2 ws3 ws4 (xD 48 Q) wi2 wi3 wi4) H := hH
  have hl : lv_has ls 4 [(0, .ref a0), (1, .int a1), (2, .int u_3), (3, .int u_4)] := hl
  refine lv_iload_n F.1 F.2.1 dX2_countInto_4 rfl (lv_at hl 3 rfl) ?_
  refine lv_aload_n F.1 F.2.1 dX2_countInto_5 rfl (lv_at hl 0 rfl) ?_
  refine tGetI (j := 0) F hK hH (tyb ha0 (all1 rfl)) rfl clX2 (by decide) wd_9_11 dX2_countInto_6 (fun z_5 hz_5 => ?_)
  have ez_5 : 0 ≤ z_5.toInt ∧ z_5.toInt ≤ 12 := by omega
  refine b_ge (tgt := 31) F dX2_countInto_9 (by decide) (fun c_6 => ?_) (fun c_6 => ?_)
  · skip
    refine lv_iload_n F.1 F.2.1 dX2_countInto_31 rfl (lv_at hl 2 rfl) ?_
    exact txI F hS dX2_countInto_32 rfl (⟨(wkb hu_3 rfl rfl), (cnt_end hcr4_0 (by omega)), hH⟩)
  · skip
    have r_7 : 0 ≤ u_4.toInt ∧ u_4.toInt ≤ 11 := by have h9_ := hu_4; omega
    have r_8 : 1 ≤ z_5.toInt ∧ z_5.toInt ≤ 12 := by have h9_ := ez_5; omega
    refine lv_aload_n F.1 F.2.1 dX2_countInto_12 rfl (lv_at hl 0 rfl) ?_
    refine tGetR (j := 1) F hK hH (tyb ha0 (all1 rfl)) rfl (all1 rfl) clX2 (by decide) wd_2_23 dX2_countInto_13 (fun q_9 hq_9 _ => ?_)
    refine lv_iload_n F.1 F.2.1 dX2_countInto_16 rfl (lv_at hl 3 rfl) ?_
    refine tIaldX F hK hH (tyb hq_9 (all1 rfl)) (ixb (n := 12) r_7 rfl rfl) dX2_countInto_17 (fun z_10 ez_10 => ?_)
    have gz_10 : z_10.toInt = gI D (u_4.toInt.toNat) := by unfold gI; rw [ez_10]; rfl
    have hz_10 : (-2) ≤ z_10.toInt ∧ z_10.toInt ≤ 11 := (by have h9_ := hD (u_4).toNatClampNeg (cl_lt (n := 12) (by omega)); rw [← ez_10] at h9_; exact h9_)
    refine lv_iload_n F.1 F.2.1 dX2_countInto_18 rfl (lv_at hl 1 rfl) ?_
    refine b_ne (tgt := 25) F dX2_countInto_19 (by decide) (fun c_11 => ?_) (fun c_11 => ?_)
    · skip
      obtain ⟨x_13, ex_13, hx_13⟩ := iincB (c := 1) (lo := 1) (hi := 12) r_7 rfl
      refine lv_iinc (v := x_13) (lv' := [(3, .int x_13), (0, .ref a0), (1, .int a1), (2, .int u_3)]) F.1 F.2.1 dX2_countInto_25 hl (k := 3) rfl ex_13 (by decide) rfl (fun ls hl => ?_)
      refine lv_goto (tgt := 4) F.1 F.2.1 dX2_countInto_28 (by decide) ?_
      exact ih_4 (u_3, x_13) _ _ _ ⟨(show (12 - x_13.toInt + 1).toNat < n_4 from by omega), hu_3, (wkb hx_13.2 rfl rfl), (show u_3.toInt = jCnt D a1.toInt (x_13.toInt).toNat from (by first | exact cnt_y hcr4_0 (by omega) (by omega) (by omega) (by omega) | exact cnt_n hcr4_0 (by omega) (by omega) (by omega) (by omega))), (show u_3.toInt ≤ x_13.toInt from by omega), (show x_13.toInt ≤ a from by omega), hH, hS, lv_sub hl [1, 2, 3, 0] rfl⟩
    · skip
      have r_12 : (-2) ≤ a1.toInt ∧ a1.toInt ≤ 11 := by have h9_ := (i32b a1); omega
      obtain ⟨x_14, ex_14, hx_14⟩ := iincB (c := 1) (lo := 1) (hi := 13) hu_3 rfl
      refine lv_iinc (v := x_14) (lv' := [(2, .int x_14), (0, .ref a0), (1, .int a1), (3, .int u_4)]) F.1 F.2.1 dX2_countInto_22 hl (k := 2) rfl ex_14 (by decide) rfl (fun ls hl => ?_)
      obtain ⟨x_15, ex_15, hx_15⟩ := iincB (c := 1) (lo := 1) (hi := 12) r_7 rfl
      refine lv_iinc (v := x_15) (lv' := [(3, .int x_15), (2, .int x_14), (0, .ref a0), (1, .int a1)]) F.1 F.2.1 dX2_countInto_25 hl (k := 3) rfl ex_15 (by decide) rfl (fun ls hl => ?_)
      refine lv_goto (tgt := 4) F.1 F.2.1 dX2_countInto_28 (by decide) ?_
      exact ih_4 (x_14, x_15) _ _ _ ⟨(show (12 - x_15.toInt + 1).toNat < n_4 from by omega), (show 0 ≤ x_14.toInt ∧ x_14.toInt ≤ 12 from by omega), (wkb hx_15.2 rfl rfl), (show x_14.toInt = jCnt D a1.toInt (x_15.toInt).toNat from (by first | exact cnt_y hcr4_0 (by omega) (by omega) (by omega) (by omega) | exact cnt_n hcr4_0 (by omega) (by omega) (by omega) (by omega))), (show x_14.toInt ≤ x_15.toInt from by omega), (show x_15.toInt ≤ a from by omega), hH, hS, lv_sub hl [2, 3, 1, 0] rfl⟩
set_option maxHeartbeats 4000000 in
set_option maxRecDepth 100000 in
theorem c_X2_countInto_2 (E : Ev) (dA : TD) (dB : TD) (rA : TD) (rc : TD) (rd : TD) (tp : TD) (ya : TD) (yb : TD) (yc : TD) (yd : TD) (ye : TD) (yf : TD) (rC : TD) (rD : TD) (wd1 : TD) (wd3 : TD) (wd4 : TD) (ws1 : TD) (ws3 : TD) (ws4 : TD) (wi1 : TD) (wi3 : TD) (wi4 : TD) (Fb2 : Int × Int) (a : Int) (D : Nat → Int32) (Kn : Nat → Int32) (Q : Nat → Int32) (a0 : Nat) (a1 : Int32) (ha0 : eT E a0 ∈ [27]) (ha : 0 ≤ a ∧ a ≤ 12) (hD : ivP 12 (-2) 11 D) (hKn : ivP 12 (-2147483648) 2147483647 Kn) (hQ : ivP 48 (-2147483648) 2147483647 Q) (hFb2 : 0 ≤ Fb2.1 ∧ Fb2.2 ≤ 14) : TcI E yX2_countInto cX2_countInto 4 .int ({ frames := 1, cells := 0, slots := 0, locals := 40 }) [.ref a0, .int a1] (fun H => TH E (tbC dA dB rA (riverD (.inl (a, a)) (.inl Fb2) (.inl (0, 4)) 32 34 36 40 44 48) rc rd tp ya yb yc yd ye yf rC rD wd1 (xD 12 D) wd3 wd4 ws1 (xD 12 Kn) ws3 ws4 wi1 (xD 48 Q) wi3 wi4) H) (fun v H => ((-2147483648) ≤ v.toInt ∧ v.toInt ≤ 2147483647) ∧ (v.toInt = jCnt D a1.toInt a.toNat) ∧ TH E (tbC dA dB rA (riverD (.inl (a, a)) (.inl Fb2) (.inl (0, 4)) 32 34 36 40 44 48) rc rd tp ya yb yc yd ye yf rC rD wd1 (xD 12 D) wd3 wd4 ws1 (xD 12 Kn) ws3 ws4 wi1 (xD 48 Q) wi3 wi4) H) := by
  refine teI (by decide) (Nat.le_of_ble_eq_true rfl) ?_
  intro p_ ev_ s mi_ below_ meth cd_ ls F hK hN hO hH hS hl
  have hH : TH E (tbC dA dB rA (riverD (.inl (a, a)) (.inl Fb2) (.inl (0, 4)) 32 34 36 40 44 48) rc rd tp ya yb yc yd ye yf rC rD wd1 (xD 12 D) wd3 wd4 ws1 (xD 12 Kn) ws3 ws4 wi1 (xD 48 Q) wi3 wi4) s.heap := hH
  have hl : lv_has ls 4 [(0, .ref a0), (1, .int a1)] := hl
  refine lv_iconst (v := 0) F.1 F.2.1 dX2_countInto_0 (by decide) ?_
  refine topK (a := 0) (by decide) (fun k_1 hk_1 => ?_)
  refine lv_istore_n (lv' := [(2, .int k_1), (0, .ref a0), (1, .int a1)]) F.1 F.2.1 dX2_countInto_1 rfl hl (by decide) rfl (fun ls hl => ?_)
  refine lv_iconst (v := 0) F.1 F.2.1 dX2_countInto_2 (by decide) ?_
  refine topK (a := 0) (by decide) (fun k_2 hk_2 => ?_)
  refine lv_istore_n (lv' := [(3, .int k_2), (2, .int k_1), (0, .ref a0), (1, .int a1)]) F.1 F.2.1 dX2_countInto_3 rfl hl (by decide) rfl (fun ls hl => ?_)
  refine wloop (σ := Int32 × Int32) (fun n9 x9 H locs ls => (12 - x9.2.toInt + 1).toNat < n9 ∧ (0 ≤ x9.1.toInt ∧ x9.1.toInt ≤ 12) ∧ (0 ≤ x9.2.toInt ∧ x9.2.toInt ≤ 12) ∧ (x9.1.toInt = jCnt D a1.toInt (x9.2.toInt).toNat) ∧ (x9.1.toInt ≤ x9.2.toInt) ∧ (x9.2.toInt ≤ a) ∧ TH E (tbC dA dB rA (riverD (.inl (a, a)) (.inl Fb2) (.inl (0, 4)) 32 34 36 40 44 48) rc rd tp ya yb yc yd ye yf rC rD wd1 (xD 12 D) wd3 wd4 ws1 (xD 12 Kn) ws3 ws4 wi1 (xD 48 Q) wi3 wi4) H ∧ va_S (eA E s.heap.size) s.heap H locs ∧ lv_has ls 4 [(0, .ref a0), (1, .int a1), (2, .int x9.1), (3, .int x9.2)]) ?_ (fun x9 H locs ls h => absurd h.1 (Nat.not_lt_zero _)) _ (k_1, k_2) ⟨Nat.lt_succ_self _, (wkb (eqb hk_1) rfl rfl), (wkb (eqb hk_2) rfl rfl), (show k_1.toInt = jCnt D a1.toInt (k_2.toInt).toNat from (cnt_0 (by omega) (by omega))), (show k_1.toInt ≤ k_2.toInt from by omega), (show k_2.toInt ≤ a from by omega), hH, hS, lv_sub hl [2, 3, 1, 0] rfl⟩
  intro n_4 ih_4 ⟨u_3, u_4⟩ H locs ls ⟨hm_4, hu_3, hu_4, hcr4_0, hcr4_1, hcr4_2, hH, hS, hl⟩
  have hm_4 : (12 - u_4.toInt + 1).toNat < n_4 + 1 := hm_4
  have hu_3 : (0 ≤ u_3.toInt ∧ u_3.toInt ≤ 12) := hu_3
  have hu_4 : (0 ≤ u_4.toInt ∧ u_4.toInt ≤ 12) := hu_4
  have hcr4_0 : (u_3.toInt = jCnt D a1.toInt (u_4.toInt).toNat) := hcr4_0
  have hcr4_1 : (u_3.toInt ≤ u_4.toInt) := hcr4_1
  have hcr4_2 : (u_4.toInt ≤ a) := hcr4_2
  have hH : TH E (tbC dA dB rA (riverD (.inl (a, a)) (.inl Fb2) (.inl (0, 4)) 32 34 36 40 44 48) rc rd tp ya yb yc yd ye yf rC rD wd1 (xD 12 D) wd3 wd4 ws1 (xD 12 Kn) ws3 ws4 wi1 (xD 48 Q) wi3 wi4) H := hH
  have hl : lv_has ls 4 [(0, .ref a0), (1, .int a1), (2, .int u_3), (3, .int u_4)] := hl
  refine lv_iload_n F.1 F.2.1 dX2_countInto_4 rfl (lv_at hl 3 rfl) ?_
  refine lv_aload_n F.1 F.2.1 dX2_countInto_5 rfl (lv_at hl 0 rfl) ?_
  refine tGetI (j := 0) F hK hH (tyb ha0 (all1 rfl)) rfl clX2 (by decide) wd_9_11 dX2_countInto_6 (fun z_5 hz_5 => ?_)
  have ez_5 : 0 ≤ z_5.toInt ∧ z_5.toInt ≤ 12 := by omega
  refine b_ge (tgt := 31) F dX2_countInto_9 (by decide) (fun c_6 => ?_) (fun c_6 => ?_)
  · skip
    refine lv_iload_n F.1 F.2.1 dX2_countInto_31 rfl (lv_at hl 2 rfl) ?_
    exact txI F hS dX2_countInto_32 rfl (⟨(wkb hu_3 rfl rfl), (cnt_end hcr4_0 (by omega)), hH⟩)
  · skip
    have r_7 : 0 ≤ u_4.toInt ∧ u_4.toInt ≤ 11 := by have h9_ := hu_4; omega
    have r_8 : 1 ≤ z_5.toInt ∧ z_5.toInt ≤ 12 := by have h9_ := ez_5; omega
    refine lv_aload_n F.1 F.2.1 dX2_countInto_12 rfl (lv_at hl 0 rfl) ?_
    refine tGetR (j := 1) F hK hH (tyb ha0 (all1 rfl)) rfl (all1 rfl) clX2 (by decide) wd_2_23 dX2_countInto_13 (fun q_9 hq_9 _ => ?_)
    refine lv_iload_n F.1 F.2.1 dX2_countInto_16 rfl (lv_at hl 3 rfl) ?_
    refine tIaldX F hK hH (tyb hq_9 (all1 rfl)) (ixb (n := 12) r_7 rfl rfl) dX2_countInto_17 (fun z_10 ez_10 => ?_)
    have gz_10 : z_10.toInt = gI D (u_4.toInt.toNat) := by unfold gI; rw [ez_10]; rfl
    have hz_10 : (-2) ≤ z_10.toInt ∧ z_10.toInt ≤ 11 := (by have h9_ := hD (u_4).toNatClampNeg (cl_lt (n := 12) (by omega)); rw [← ez_10] at h9_; exact h9_)
    refine lv_iload_n F.1 F.2.1 dX2_countInto_18 rfl (lv_at hl 1 rfl) ?_
    refine b_ne (tgt := 25) F dX2_countInto_19 (by decide) (fun c_11 => ?_) (fun c_11 => ?_)
    · skip
      obtain ⟨x_13, ex_13, hx_13⟩ := iincB (c := 1) (lo := 1) (hi := 12) r_7 rfl
      refine lv_iinc (v := x_13) (lv' := [(3, .int x_13), (0, .ref a0), (1, .int a1), (2, .int u_3)]) F.1 F.2.1 dX2_countInto_25 hl (k := 3) rfl ex_13 (by decide) rfl (fun ls hl => ?_)
      refine lv_goto (tgt := 4) F.1 F.2.1 dX2_countInto_28 (by decide) ?_
      exact ih_4 (u_3, x_13) _ _ _ ⟨(show (12 - x_13.toInt + 1).toNat < n_4 from by omega), hu_3, (wkb hx_13.2 rfl rfl), (show u_3.toInt = jCnt D a1.toInt (x_13.toInt).toNat from (by first | exact cnt_y hcr4_0 (by omega) (by omega) (by omega) (by omega) | exact cnt_n hcr4_0 (by omega) (by omega) (by omega) (by omega))), (show u_3.toInt ≤ x_13.toInt from by omega), (show x_13.toInt ≤ a from by omega), hH, hS, lv_sub hl [1, 2, 3, 0] rfl⟩
    · skip
      have r_12 : (-2) ≤ a1.toInt ∧ a1.toInt ≤ 11 := by have h9_ := (i32b a1); omega
      obtain ⟨x_14, ex_14, hx_14⟩ := iincB (c := 1) (lo := 1) (hi := 13) hu_3 rfl
      refine lv_iinc (v := x_14) (lv' := [(2, .int x_14), (0, .ref a0), (1, .int a1), (3, .int u_4)]) F.1 F.2.1 dX2_countInto_22 hl (k := 2) rfl ex_14 (by decide) rfl (fun ls hl => ?_)
      obtain ⟨x_15, ex_15, hx_15⟩ := iincB (c := 1) (lo := 1) (hi := 12) r_7 rfl
      refine lv_iinc (v := x_15) (lv' := [(3, .int x_15), (2, .int x_14), (0, .ref a0), (1, .int a1)]) F.1 F.2.1 dX2_countInto_25 hl (k := 3) rfl ex_15 (by decide) rfl (fun ls hl => ?_)
      refine lv_goto (tgt := 4) F.1 F.2.1 dX2_countInto_28 (by decide) ?_
      exact ih_4 (x_14, x_15) _ _ _ ⟨(show (12 - x_15.toInt + 1).toNat < n_4 from by omega), (show 0 ≤ x_14.toInt ∧ x_14.toInt ≤ 12 from by omega), (wkb hx_15.2 rfl rfl), (show x_14.toInt = jCnt D a1.toInt (x_15.toInt).toNat from (by first | exact cnt_y hcr4_0 (by omega) (by omega) (by omega) (by omega) | exact cnt_n hcr4_0 (by omega) (by omega) (by omega) (by omega))), (show x_14.toInt ≤ x_15.toInt from by omega), (show x_15.toInt ≤ a from by omega), hH, hS, lv_sub hl [2, 3, 1, 0] rfl⟩
set_option maxHeartbeats 4000000 in
set_option maxRecDepth 100000 in
theorem c_X6_isReach_1 (E : Ev) (rd : TD) (tp : TD) (kb : Int × Int) (Fb1 : Int × Int) (Fa2 : Int × Int) (Fb2 : Int × Int) (Fa3 : Int × Int) (Fb3 : Int × Int) (Fa4 : Int × Int) (Fb4 : Int × Int) (ks : List Nat) (Pd2 : (Nat → Int32) → Prop) (Pd3 : (Nat → Int32) → Prop) (Pd4 : (Nat → Int32) → Prop) (Ps2 : (Nat → Int32) → Prop) (Ps3 : (Nat → Int32) → Prop) (Ps4 : (Nat → Int32) → Prop) (Pi2 : (Nat → Int32) → Prop) (Pi3 : (Nat → Int32) → Prop) (Pi4 : (Nat → Int32) → Prop) (a : Int) (t : Int) (D : Nat → Int32) (Kn : Nat → Int32) (Q : Nat → Int32) (a0 : Nat) (a1 : Int32) (ha0 : eT E a0 ∈ [28]) (ha : 0 ≤ a ∧ a ≤ 12) (ht : 0 ≤ t ∧ t ≤ 400) (hD : ivP 12 (-2) 11 D) (hKn : ivP 12 (-2147483648) 2147483647 Kn) (hQ : ivP 48 (-2147483648) 2147483647 Q) (hFb1 : 0 ≤ Fb1.1 ∧ Fb1.2 ≤ 14) (hFa2 : 0 ≤ Fa2.1 ∧ Fa2.2 ≤ 12) (hFb2 : 0 ≤ Fb2.1 ∧ Fb2.2 ≤ 14) (hFa3 : 0 ≤ Fa3.1 ∧ Fa3.2 ≤ 12) (hFb3 : 0 ≤ Fb3.1 ∧ Fb3.2 ≤ 14) (hFa4 : 0 ≤ Fa4.1 ∧ Fa4.2 ≤ 12) (hFb4 : 0 ≤ Fb4.1 ∧ Fb4.2 ≤ 14) (hks : ∀ t ∈ ks, t ∈ [26, 27]) (hPd2 : ∀ f, Pd2 f → ivP 12 (-2) 11 f) (hPd3 : ∀ f, Pd3 f → ivP 12 (-2) 11 f) (hPd4 : ∀ f, Pd4 f → ivP 12 (-2) 11 f) (hPs2 : ∀ f, Ps2 f → ivP 12 (-2147483648) 2147483647 f) (hPs3 : ∀ f, Ps3 f → ivP 12 (-2147483648) 2147483647 f) (hPs4 : ∀ f, Ps4 f → ivP 12 (-2147483648) 2147483647 f) (hPi2 : ∀ f, Pi2 f → ivP 48 (-2147483648) 2147483647 f) (hPi3 : ∀ f, Pi3 f → ivP 48 (-2147483648) 2147483647 f) (hPi4 : ∀ f, Pi4 f → ivP 48 (-2147483648) 2147483647 f) : TcI E yX6_isReach cX6_isReach 2 .boolean ({ frames := 1, cells := 0, slots := 0, locals := 40 }) [.ref a0, .int a1] (fun H => TH E (tbC (dayD (.inl (0, 18))) (dayD (.inl (0, 18))) (riverD (.inl (a, a)) (.inl Fb1) (.inl (0, 4)) 31 33 35 39 43 47) (riverD (.inl Fa2) (.inl Fb2) (.inl (0, 4)) 32 34 36 40 44 48) (rcD (.inl (t, t)) (.inr [26]) (.inr ks) (.inl kb)) rd tp A14F A14F A4F A4F A14F A14F (riverD (.inl Fa3) (.inl Fb3) (.inl (0, 4)) 3 8 3 41 45 49) (riverD (.inl Fa4) (.inl Fb4) (.inl (0, 4)) 3 8 3 42 46 50) (xD 12 D) ((.inr (.inl (0, 12, Pd2)))) ((.inr (.inl (0, 12, Pd3)))) ((.inr (.inl (0, 12, Pd4)))) (xD 12 Kn) ((.inr (.inl (0, 12, Ps2)))) ((.inr (.inl (0, 12, Ps3)))) ((.inr (.inl (0, 12, Ps4)))) (xD 48 Q) ((.inr (.inl (0, 48, Pi2)))) ((.inr (.inl (0, 48, Pi3)))) ((.inr (.inl (0, 48, Pi4))))) H) (fun v H => (0 ≤ v.toInt ∧ v.toInt ≤ 1) ∧ (v.toInt = 1 → 0 ≤ a1.toInt ∧ a1.toInt ≤ 11) ∧ ((v.toInt = 1 ∧ 0 ≤ a1.toInt ∧ a1.toInt < a) ∨ (v.toInt = 0 ∧ (a1.toInt < 0 ∨ a ≤ a1.toInt))) ∧ TH E (tbC (dayD (.inl (0, 18))) (dayD (.inl (0, 18))) (riverD (.inl (a, a)) (.inl Fb1) (.inl (0, 4)) 31 33 35 39 43 47) (riverD (.inl Fa2) (.inl Fb2) (.inl (0, 4)) 32 34 36 40 44 48) (rcD (.inl (t, t)) (.inr [26]) (.inr ks) (.inl kb)) rd tp A14F A14F A4F A4F A14F A14F (riverD (.inl Fa3) (.inl Fb3) (.inl (0, 4)) 3 8 3 41 45 49) (riverD (.inl Fa4) (.inl Fb4) (.inl (0, 4)) 3 8 3 42 46 50) (xD 12 D) ((.inr (.inl (0, 12, Pd2)))) ((.inr (.inl (0, 12, Pd3)))) ((.inr (.inl (0, 12, Pd4)))) (xD 12 Kn) ((.inr (.inl (0, 12, Ps2)))) ((.inr (.inl (0, 12, Ps3)))) ((.inr (.inl (0, 12, Ps4)))) (xD 48 Q) ((.inr (.inl (0, 48, Pi2)))) ((.inr (.inl (0, 48, Pi3)))) ((.inr (.inl (0, 48, Pi4))))) H) := by
  refine teI (by decide) (Nat.le_of_ble_eq_true rfl) ?_
  intro p_ ev_ s mi_ below_ meth cd_ ls F hK hN hO hH hS hl
  have hH : TH E (tbC (dayD (.inl (0, 18))) (dayD (.inl (0, 18))) (riverD (.inl (a, a)) (.inl Fb1) (.inl (0, 4)) 31 33 35 39 43 47) (riverD (.inl Fa2) (.inl Fb2) (.inl (0, 4)) 32 34 36 40 44 48) (rcD (.inl (t, t)) (.inr [26]) (.inr ks) (.inl kb)) rd tp A14F A14F A4F A4F A14F A14F (riverD (.inl Fa3) (.inl Fb3) (.inl (0, 4)) 3 8 3 41 45 49) (riverD (.inl Fa4) (.inl Fb4) (.inl (0, 4)) 3 8 3 42 46 50) (xD 12 D) ((.inr (.inl (0, 12, Pd2)))) ((.inr (.inl (0, 12, Pd3)))) ((.inr (.inl (0, 12, Pd4)))) (xD 12 Kn) ((.inr (.inl (0, 12, Ps2)))) ((.inr (.inl (0, 12, Ps3)))) ((.inr (.inl (0, 12, Ps4)))) (xD 48 Q) ((.inr (.inl (0, 48, Pi2)))) ((.inr (.inl (0, 48, Pi3)))) ((.inr (.inl (0, 48, Pi4))))) s.heap := hH
  have hl : lv_has ls 2 [(0, .ref a0), (1, .int a1)] := hl
  refine lv_iload_n F.1 F.2.1 dX6_isReach_0 rfl (lv_at hl 1 rfl) ?_
  refine z_lt (tgt := 19) F dX6_isReach_1 (by decide) (fun c_1 => ?_) (fun c_1 => ?_)
  · skip
    have r_2 : (-2147483648) ≤ a1.toInt ∧ a1.toInt ≤ (-1) := by have h9_ := (i32b a1); omega
    refine lv_iconst (v := 0) F.1 F.2.1 dX6_isReach_19 (by decide) ?_
    refine topK (a := 0) (by decide) (fun k_4 hk_4 => ?_)
    exact txI F hS dX6_isReach_20 (nar01 (wkb (eqb hk_4) rfl rfl)) (⟨(wkb (eqb hk_4) rfl rfl), (by omega), (by omega), hH⟩)
  · skip
    have r_3 : 0 ≤ a1.toInt ∧ a1.toInt ≤ 2147483647 := by have h9_ := (i32b a1); omega
    refine lv_iload_n F.1 F.2.1 dX6_isReach_4 rfl (lv_at hl 1 rfl) ?_
    refine lv_aload_n F.1 F.2.1 dX6_isReach_5 rfl (lv_at hl 0 rfl) ?_
    refine tGetR (j := 2) F hK hH (tyb ha0 (all1 rfl)) rfl (all1 rfl) clX6 (by decide) wd_1_17 dX6_isReach_6 (fun q_5 hq_5 _ => ?_)
    refine tGetI (j := 0) F hK hH (tyb hq_5 (all1 rfl)) rfl clX2 (by decide) wd_34_10 dX6_isReach_9 (fun z_6 hz_6 => ?_)
    have ez_6 : 0 ≤ z_6.toInt ∧ z_6.toInt ≤ 12 := by omega
    refine b_ge (tgt := 19) F dX6_isReach_12 (by decide) (fun c_7 => ?_) (fun c_7 => ?_)
    · skip
      refine lv_iconst (v := 0) F.1 F.2.1 dX6_isReach_19 (by decide) ?_
      refine topK (a := 0) (by decide) (fun k_10 hk_10 => ?_)
      exact txI F hS dX6_isReach_20 (nar01 (wkb (eqb hk_10) rfl rfl)) (⟨(wkb (eqb hk_10) rfl rfl), (by omega), (by omega), hH⟩)
    · skip
      have r_8 : 0 ≤ a1.toInt ∧ a1.toInt ≤ 11 := by have h9_ := r_3; omega
      have r_9 : 1 ≤ z_6.toInt ∧ z_6.toInt ≤ 12 := by have h9_ := ez_6; omega
      refine lv_iconst (v := 1) F.1 F.2.1 dX6_isReach_15 (by decide) ?_
      refine topK (a := 1) (by decide) (fun k_11 hk_11 => ?_)
      refine lv_goto (tgt := 20) F.1 F.2.1 dX6_isReach_16 (by decide) ?_
      exact txI F hS dX6_isReach_20 (nar01 (wkb (eqb hk_11) rfl rfl)) (⟨(wkb (eqb hk_11) rfl rfl), (by omega), (by omega), hH⟩)
set_option maxHeartbeats 4000000 in
set_option maxRecDepth 100000 in
theorem c_X6_isReach_2 (E : Ev) (rd : TD) (tp : TD) (kb : Int × Int) (Fa1 : Int × Int) (Fb1 : Int × Int) (Fb2 : Int × Int) (Fa3 : Int × Int) (Fb3 : Int × Int) (Fa4 : Int × Int) (Fb4 : Int × Int) (ks : List Nat) (Pd1 : (Nat → Int32) → Prop) (Pd3 : (Nat → Int32) → Prop) (Pd4 : (Nat → Int32) → Prop) (Ps1 : (Nat → Int32) → Prop) (Ps3 : (Nat → Int32) → Prop) (Ps4 : (Nat → Int32) → Prop) (Pi1 : (Nat → Int32) → Prop) (Pi3 : (Nat → Int32) → Prop) (Pi4 : (Nat → Int32) → Prop) (a : Int) (t : Int) (D : Nat → Int32) (Kn : Nat → Int32) (Q : Nat → Int32) (a0 : Nat) (a1 : Int32) (ha0 : eT E a0 ∈ [28]) (ha : 0 ≤ a ∧ a ≤ 12) (ht : 0 ≤ t ∧ t ≤ 400) (hD : ivP 12 (-2) 11 D) (hKn : ivP 12 (-2147483648) 2147483647 Kn) (hQ : ivP 48 (-2147483648) 2147483647 Q) (hFa1 : 0 ≤ Fa1.1 ∧ Fa1.2 ≤ 12) (hFb1 : 0 ≤ Fb1.1 ∧ Fb1.2 ≤ 14) (hFb2 : 0 ≤ Fb2.1 ∧ Fb2.2 ≤ 14) (hFa3 : 0 ≤ Fa3.1 ∧ Fa3.2 ≤ 12) (hFb3 : 0 ≤ Fb3.1 ∧ Fb3.2 ≤ 14) (hFa4 : 0 ≤ Fa4.1 ∧ Fa4.2 ≤ 12) (hFb4 : 0 ≤ Fb4.1 ∧ Fb4.2 ≤ 14) (hks : ∀ t ∈ ks, t ∈ [26, 27]) (hPd1 : ∀ f, Pd1 f → ivP 12 (-2) 11 f) (hPd3 : ∀ f, Pd3 f → ivP 12 (-2) 11 f) (hPd4 : ∀ f, Pd4 f → ivP 12 (-2) 11 f) (hPs1 : ∀ f, Ps1 f → ivP 12 (-2147483648) 2147483647 f) (hPs3 : ∀ f, Ps3 f → ivP 12 (-2147483648) 2147483647 f) (hPs4 : ∀ f, Ps4 f → ivP 12 (-2147483648) 2147483647 f) (hPi1 : ∀ f, Pi1 f → ivP 48 (-2147483648) 2147483647 f) (hPi3 : ∀ f, Pi3 f → ivP 48 (-2147483648) 2147483647 f) (hPi4 : ∀ f, Pi4 f → ivP 48 (-2147483648) 2147483647 f) : TcI E yX6_isReach cX6_isReach 2 .boolean ({ frames := 1, cells := 0, slots := 0, locals := 40 }) [.ref a0, .int a1] (fun H => TH E (tbC (dayD (.inl (0, 18))) (dayD (.inl (0, 18))) (riverD (.inl Fa1) (.inl Fb1) (.inl (0, 4)) 31 33 35 39 43 47) (riverD (.inl (a, a)) (.inl Fb2) (.inl (0, 4)) 32 34 36 40 44 48) (rcD (.inl (t, t)) (.inr [27]) (.inr ks) (.inl kb)) rd tp A14F A14F A4F A4F A14F A14F (riverD (.inl Fa3) (.inl Fb3) (.inl (0, 4)) 3 8 3 41 45 49) (riverD (.inl Fa4) (.inl Fb4) (.inl (0, 4)) 3 8 3 42 46 50) ((.inr (.inl (0, 12, Pd1)))) (xD 12 D) ((.inr (.inl (0, 12, Pd3)))) ((.inr (.inl (0, 12, Pd4)))) ((.inr (.inl (0, 12, Ps1)))) (xD 12 Kn) ((.inr (.inl (0, 12, Ps3)))) ((.inr (.inl (0, 12, Ps4)))) ((.inr (.inl (0, 48, Pi1)))) (xD 48 Q) ((.inr (.inl (0, 48, Pi3)))) ((.inr (.inl (0, 48, Pi4))))) H) (fun v H => (0 ≤ v.toInt ∧ v.toInt ≤ 1) ∧ (v.toInt = 1 → 0 ≤ a1.toInt ∧ a1.toInt ≤ 11) ∧ ((v.toInt = 1 ∧ 0 ≤ a1.toInt ∧ a1.toInt < a) ∨ (v.toInt = 0 ∧ (a1.toInt < 0 ∨ a ≤ a1.toInt))) ∧ TH E (tbC (dayD (.inl (0, 18))) (dayD (.inl (0, 18))) (riverD (.inl Fa1) (.inl Fb1) (.inl (0, 4)) 31 33 35 39 43 47) (riverD (.inl (a, a)) (.inl Fb2) (.inl (0, 4)) 32 34 36 40 44 48) (rcD (.inl (t, t)) (.inr [27]) (.inr ks) (.inl kb)) rd tp A14F A14F A4F A4F A14F A14F (riverD (.inl Fa3) (.inl Fb3) (.inl (0, 4)) 3 8 3 41 45 49) (riverD (.inl Fa4) (.inl Fb4) (.inl (0, 4)) 3 8 3 42 46 50) ((.inr (.inl (0, 12, Pd1)))) (xD 12 D) ((.inr (.inl (0, 12, Pd3)))) ((.inr (.inl (0, 12, Pd4)))) ((.inr (.inl (0, 12, Ps1)))) (xD 12 Kn) ((.inr (.inl (0, 12, Ps3)))) ((.inr (.inl (0, 12, Ps4)))) ((.inr (.inl (0, 48, Pi1)))) (xD 48 Q) ((.inr (.inl (0, 48, Pi3)))) ((.inr (.inl (0, 48, Pi4))))) H) := by
  refine teI (by decide) (Nat.le_of_ble_eq_true rfl) ?_
  intro p_ ev_ s mi_ below_ meth cd_ ls F hK hN hO hH hS hl
  have hH : TH E (tbC (dayD (.inl (0, 18))) (dayD (.inl (0, 18))) (riverD (.inl Fa1) (.inl Fb1) (.inl (0, 4)) 31 33 35 39 43 47) (riverD (.inl (a, a)) (.inl Fb2) (.inl (0, 4)) 32 34 36 40 44 48) (rcD (.inl (t, t)) (.inr [27]) (.inr ks) (.inl kb)) rd tp A14F A14F A4F A4F A14F A14F (riverD (.inl Fa3) (.inl Fb3) (.inl (0, 4)) 3 8 3 41 45 49) (riverD (.inl Fa4) (.inl Fb4) (.inl (0, 4)) 3 8 3 42 46 50) ((.inr (.inl (0, 12, Pd1)))) (xD 12 D) ((.inr (.inl (0, 12, Pd3)))) ((.inr (.inl (0, 12, Pd4)))) ((.inr (.inl (0, 12, Ps1)))) (xD 12 Kn) ((.inr (.inl (0, 12, Ps3)))) ((.inr (.inl (0, 12, Ps4)))) ((.inr (.inl (0, 48, Pi1)))) (xD 48 Q) ((.inr (.inl (0, 48, Pi3)))) ((.inr (.inl (0, 48, Pi4))))) s.heap := hH
  have hl : lv_has ls 2 [(0, .ref a0), (1, .int a1)] := hl
  refine lv_iload_n F.1 F.2.1 dX6_isReach_0 rfl (lv_at hl 1 rfl) ?_
  refine z_lt (tgt := 19) F dX6_isReach_1 (by decide) (fun c_1 => ?_) (fun c_1 => ?_)
  · skip
    have r_2 : (-2147483648) ≤ a1.toInt ∧ a1.toInt ≤ (-1) := by have h9_ := (i32b a1); omega
    refine lv_iconst (v := 0) F.1 F.2.1 dX6_isReach_19 (by decide) ?_
    refine topK (a := 0) (by decide) (fun k_4 hk_4 => ?_)
    exact txI F hS dX6_isReach_20 (nar01 (wkb (eqb hk_4) rfl rfl)) (⟨(wkb (eqb hk_4) rfl rfl), (by omega), (by omega), hH⟩)
  · skip
    have r_3 : 0 ≤ a1.toInt ∧ a1.toInt ≤ 2147483647 := by have h9_ := (i32b a1); omega
    refine lv_iload_n F.1 F.2.1 dX6_isReach_4 rfl (lv_at hl 1 rfl) ?_
    refine lv_aload_n F.1 F.2.1 dX6_isReach_5 rfl (lv_at hl 0 rfl) ?_
    refine tGetR (j := 2) F hK hH (tyb ha0 (all1 rfl)) rfl (all1 rfl) clX6 (by decide) wd_1_17 dX6_isReach_6 (fun q_5 hq_5 _ => ?_)
    refine tGetI (j := 0) F hK hH (tyb hq_5 (all1 rfl)) rfl clX2 (by decide) wd_34_10 dX6_isReach_9 (fun z_6 hz_6 => ?_)
    have ez_6 : 0 ≤ z_6.toInt ∧ z_6.toInt ≤ 12 := by omega
    refine b_ge (tgt := 19) F dX6_isReach_12 (by decide) (fun c_7 => ?_) (fun c_7 => ?_)
    · skip
      refine lv_iconst (v := 0) F.1 F.2.1 dX6_isReach_19 (by decide) ?_
      refine topK (a := 0) (by decide) (fun k_10 hk_10 => ?_)
      exact txI F hS dX6_isReach_20 (nar01 (wkb (eqb hk_10) rfl rfl)) (⟨(wkb (eqb hk_10) rfl rfl), (by omega), (by omega), hH⟩)
    · skip
      have r_8 : 0 ≤ a1.toInt ∧ a1.toInt ≤ 11 := by have h9_ := r_3; omega
      have r_9 : 1 ≤ z_6.toInt ∧ z_6.toInt ≤ 12 := by have h9_ := ez_6; omega
      refine lv_iconst (v := 1) F.1 F.2.1 dX6_isReach_15 (by decide) ?_
      refine topK (a := 1) (by decide) (fun k_11 hk_11 => ?_)
      refine lv_goto (tgt := 20) F.1 F.2.1 dX6_isReach_16 (by decide) ?_
      exact txI F hS dX6_isReach_20 (nar01 (wkb (eqb hk_11) rfl rfl)) (⟨(wkb (eqb hk_11) rfl rfl), (by omega), (by omega), hH⟩)
set_option maxHeartbeats 4000000 in
set_option maxRecDepth 100000 in
theorem c_X6_reach_1 (E : Ev) (rd : TD) (tp : TD) (kb : Int × Int) (Fb1 : Int × Int) (Fa2 : Int × Int) (Fb2 : Int × Int) (Fa3 : Int × Int) (Fb3 : Int × Int) (Fa4 : Int × Int) (Fb4 : Int × Int) (ks : List Nat) (Pd2 : (Nat → Int32) → Prop) (Pd3 : (Nat → Int32) → Prop) (Pd4 : (Nat → Int32) → Prop) (Ps2 : (Nat → Int32) → Prop) (Ps3 : (Nat → Int32) → Prop) (Ps4 : (Nat → Int32) → Prop) (Pi2 : (Nat → Int32) → Prop) (Pi3 : (Nat → Int32) → Prop) (Pi4 : (Nat → Int32) → Prop) (a : Int) (t : Int) (D : Nat → Int32) (Kn : Nat → Int32) (Q : Nat → Int32) (a0 : Nat) (a1 : Int32) (a2 : Int32) (ha0 : eT E a0 ∈ [28]) (ha : 0 ≤ a ∧ a ≤ 12) (ht : 0 ≤ t ∧ t ≤ 400) (hD : ivP 12 (-2) 11 D) (hKn : ivP 12 (-2147483648) 2147483647 Kn) (hQ : ivP 48 (-2147483648) 2147483647 Q) (hFb1 : 0 ≤ Fb1.1 ∧ Fb1.2 ≤ 14) (hFa2 : 0 ≤ Fa2.1 ∧ Fa2.2 ≤ 12) (hFb2 : 0 ≤ Fb2.1 ∧ Fb2.2 ≤ 14) (hFa3 : 0 ≤ Fa3.1 ∧ Fa3.2 ≤ 12) (hFb3 : 0 ≤ Fb3.1 ∧ Fb3.2 ≤ 14) (hFa4 : 0 ≤ Fa4.1 ∧ Fa4.2 ≤ 12) (hFb4 : 0 ≤ Fb4.1 ∧ Fb4.2 ≤ 14) (hks : ∀ t ∈ ks, t ∈ [26, 27]) (hPd2 : ∀ f, Pd2 f → ivP 12 (-2) 11 f) (hPd3 : ∀ f, Pd3 f → ivP 12 (-2) 11 f) (hPd4 : ∀ f, Pd4 f → ivP 12 (-2) 11 f) (hPs2 : ∀ f, Ps2 f → ivP 12 (-2147483648) 2147483647 f) (hPs3 : ∀ f, Ps3 f → ivP 12 (-2147483648) 2147483647 f) (hPs4 : ∀ f, Ps4 f → ivP 12 (-2147483648) 2147483647 f) (hPi2 : ∀ f, Pi2 f → ivP 48 (-2147483648) 2147483647 f) (hPi3 : ∀ f, Pi3 f → ivP 48 (-2147483648) 2147483647 f) (hPi4 : ∀ f, Pi4 f → ivP 48 (-2147483648) 2147483647 f) : TcI E yX6_reach cX6_reach 3 .int ({ frames := 2, cells := 0, slots := 0, locals := 64 }) [.ref a0, .int a1, .int a2] (fun H => TH E (tbC (dayD (.inl (0, 18))) (dayD (.inl (0, 18))) (riverD (.inl (a, a)) (.inl Fb1) (.inl (0, 4)) 31 33 35 39 43 47) (riverD (.inl Fa2) (.inl Fb2) (.inl (0, 4)) 32 34 36 40 44 48) (rcD (.inl (t, t)) (.inr [26]) (.inr ks) (.inl kb)) rd tp A14F A14F A4F A4F A14F A14F (riverD (.inl Fa3) (.inl Fb3) (.inl (0, 4)) 3 8 3 41 45 49) (riverD (.inl Fa4) (.inl Fb4) (.inl (0, 4)) 3 8 3 42 46 50) (xD 12 D) ((.inr (.inl (0, 12, Pd2)))) ((.inr (.inl (0, 12, Pd3)))) ((.inr (.inl (0, 12, Pd4)))) (xD 12 Kn) ((.inr (.inl (0, 12, Ps2)))) ((.inr (.inl (0, 12, Ps3)))) ((.inr (.inl (0, 12, Ps4)))) (xD 48 Q) ((.inr (.inl (0, 48, Pi2)))) ((.inr (.inl (0, 48, Pi3)))) ((.inr (.inl (0, 48, Pi4))))) H) (fun v H => ((-2147483648) ≤ v.toInt ∧ v.toInt ≤ 2147483647) ∧ (v.toInt = jReach a D Kn Q a1.toInt a2.toInt) ∧ TH E (tbC (dayD (.inl (0, 18))) (dayD (.inl (0, 18))) (riverD (.inl (a, a)) (.inl Fb1) (.inl (0, 4)) 31 33 35 39 43 47) (riverD (.inl Fa2) (.inl Fb2) (.inl (0, 4)) 32 34 36 40 44 48) (rcD (.inl (t, t)) (.inr [26]) (.inr ks) (.inl kb)) rd tp A14F A14F A4F A4F A14F A14F (riverD (.inl Fa3) (.inl Fb3) (.inl (0, 4)) 3 8 3 41 45 49) (riverD (.inl Fa4) (.inl Fb4) (.inl (0, 4)) 3 8 3 42 46 50) (xD 12 D) ((.inr (.inl (0, 12, Pd2)))) ((.inr (.inl (0, 12, Pd3)))) ((.inr (.inl (0, 12, Pd4)))) (xD 12 Kn) ((.inr (.inl (0, 12, Ps2)))) ((.inr (.inl (0, 12, Ps3)))) ((.inr (.inl (0, 12, Ps4)))) (xD 48 Q) ((.inr (.inl (0, 48, Pi2)))) ((.inr (.inl (0, 48, Pi3)))) ((.inr (.inl (0, 48, Pi4))))) H) := by
  refine teI (by decide) (Nat.le_of_ble_eq_true rfl) ?_
  intro p_ ev_ s mi_ below_ meth cd_ ls F hK hN hO hH hS hl
  have hH : TH E (tbC (dayD (.inl (0, 18))) (dayD (.inl (0, 18))) (riverD (.inl (a, a)) (.inl Fb1) (.inl (0, 4)) 31 33 35 39 43 47) (riverD (.inl Fa2) (.inl Fb2) (.inl (0, 4)) 32 34 36 40 44 48) (rcD (.inl (t, t)) (.inr [26]) (.inr ks) (.inl kb)) rd tp A14F A14F A4F A4F A14F A14F (riverD (.inl Fa3) (.inl Fb3) (.inl (0, 4)) 3 8 3 41 45 49) (riverD (.inl Fa4) (.inl Fb4) (.inl (0, 4)) 3 8 3 42 46 50) (xD 12 D) ((.inr (.inl (0, 12, Pd2)))) ((.inr (.inl (0, 12, Pd3)))) ((.inr (.inl (0, 12, Pd4)))) (xD 12 Kn) ((.inr (.inl (0, 12, Ps2)))) ((.inr (.inl (0, 12, Ps3)))) ((.inr (.inl (0, 12, Ps4)))) (xD 48 Q) ((.inr (.inl (0, 48, Pi2)))) ((.inr (.inl (0, 48, Pi3)))) ((.inr (.inl (0, 48, Pi4))))) s.heap := hH
  have hl : lv_has ls 3 [(0, .ref a0), (1, .int a1), (2, .int a2)] := hl
  refine lv_aload_n F.1 F.2.1 dX6_reach_0 rfl (lv_at hl 0 rfl) ?_
  refine lv_iload_n F.1 F.2.1 dX6_reach_1 rfl (lv_at hl 1 rfl) ?_
  refine tVi (b := a0) (As := [.int a1]) (rest := []) F hK hN hO (c_X6_isReach_1 E rd tp kb Fb1 Fa2 Fb2 Fa3 Fb3 Fa4 Fb4 ks Pd2 Pd3 Pd4 Ps2 Ps3 Ps4 Pi2 Pi3 Pi4 a t D Kn Q a0 a1 ha0 (by omega) (by omega) hD hKn hQ hFb1 hFa2 hFb2 hFa3 hFb3 hFa4 hFb4 hks hPd2 hPd3 hPd4 hPs2 hPs3 hPs4 hPi2 hPi3 hPi4) mv_X6_isReach wd_34_6 ⟨Nat.le_of_ble_eq_true rfl, Nat.le_of_ble_eq_true rfl⟩ ⟨Nat.le_of_ble_eq_true rfl, Nat.le_of_ble_eq_true rfl⟩ hH hS (tRecv hK hH (tyb ha0 (all1 rfl)) clX6) rfl hl.1 (Nat.le_of_ble_eq_true rfl) dX6_reach_2 (fun z_1 H locs hq hS => ?_)
  obtain ⟨f_2, f_3, f_4, hH⟩ := hq
  have hH : TH E (tbC (dayD (.inl (0, 18))) (dayD (.inl (0, 18))) (riverD (.inl (a, a)) (.inl Fb1) (.inl (0, 4)) 31 33 35 39 43 47) (riverD (.inl Fa2) (.inl Fb2) (.inl (0, 4)) 32 34 36 40 44 48) (rcD (.inl (t, t)) (.inr [26]) (.inr ks) (.inl kb)) rd tp A14F A14F A4F A4F A14F A14F (riverD (.inl Fa3) (.inl Fb3) (.inl (0, 4)) 3 8 3 41 45 49) (riverD (.inl Fa4) (.inl Fb4) (.inl (0, 4)) 3 8 3 42 46 50) (xD 12 D) ((.inr (.inl (0, 12, Pd2)))) ((.inr (.inl (0, 12, Pd3)))) ((.inr (.inl (0, 12, Pd4)))) (xD 12 Kn) ((.inr (.inl (0, 12, Ps2)))) ((.inr (.inl (0, 12, Ps3)))) ((.inr (.inl (0, 12, Ps4)))) (xD 48 Q) ((.inr (.inl (0, 48, Pi2)))) ((.inr (.inl (0, 48, Pi3)))) ((.inr (.inl (0, 48, Pi4))))) H := hH
  refine z_ne (tgt := 10) F dX6_reach_5 (by decide) (fun c_5 => ?_) (fun c_5 => ?_)
  · skip
    have r_6 : 1 ≤ z_1.toInt ∧ z_1.toInt ≤ 1 := by have h9_ := f_2; omega
    have r_7 : 0 ≤ a1.toInt ∧ a1.toInt ≤ 11 := by have h9_ := (i32b a1); omega
    refine lv_iload_n F.1 F.2.1 dX6_reach_10 rfl (lv_at hl 2 rfl) ?_
    refine lv_bipush (v := 10) F.1 F.2.1 dX6_reach_11 (by decide) ?_
    refine topK (a := 10) (by decide) (fun k_9 hk_9 => ?_)
    refine b_lt (tgt := 39) F dX6_reach_13 (by decide) (fun c_10 => ?_) (fun c_10 => ?_)
    · skip
      have r_11 : (-2147483648) ≤ a2.toInt ∧ a2.toInt ≤ 9 := by have h9_ := (i32b a2); omega
      refine lv_iload_n F.1 F.2.1 dX6_reach_39 rfl (lv_at hl 2 rfl) ?_
      rcases (by omega : (a2.toInt < 0 ∨ 3 < a2.toInt) ∨ a2.toInt = 0 ∨ a2.toInt = 1 ∨ a2.toInt = 2 ∨ a2.toInt = 3) with w_13 | w_13 | w_13 | w_13 | w_13
      · skip
        refine tTabOut (tgt := 110) F dX6_reach_40 w_13 (by decide) ?_
        refine lv_iconst (v := (-1)) F.1 F.2.1 dX6_reach_110 (by decide) ?_
        refine topK (a := (-1)) (by decide) (fun k_14 hk_14 => ?_)
        exact txI F hS dX6_reach_111 rfl (⟨(wkb (eqb hk_14) rfl rfl), (jr_d (by omega) (by omega) (by omega)), hH⟩)
      · skip
        refine tTabIn (off := 32) (tgt := 72) F dX6_reach_40 w_13 (by decide) (by decide) (by decide +kernel) (by decide) ?_
        refine lv_aload_n F.1 F.2.1 dX6_reach_72 rfl (lv_at hl 0 rfl) ?_
        refine tGetR (j := 2) F hK hH (tyb ha0 (all1 rfl)) rfl (all1 rfl) clX6 (by decide) wd_1_17 dX6_reach_73 (fun q_15 hq_15 _ => ?_)
        refine tGetR (j := 1) F hK hH (tyb hq_15 (all1 rfl)) rfl (all1 rfl) clX2 (by decide) wd_39_22 dX6_reach_76 (fun q_16 hq_16 _ => ?_)
        refine lv_iload_n F.1 F.2.1 dX6_reach_79 rfl (lv_at hl 1 rfl) ?_
        refine tIaldX F hK hH (tyb hq_16 (all1 rfl)) (ixb (n := 12) r_7 rfl rfl) dX6_reach_80 (fun z_17 ez_17 => ?_)
        have gz_17 : z_17.toInt = gI D (a1.toInt.toNat) := by unfold gI; rw [ez_17]; rfl
        have hz_17 : (-2) ≤ z_17.toInt ∧ z_17.toInt ≤ 11 := (by have h9_ := hD (a1).toNatClampNeg (cl_lt (n := 12) (by omega)); rw [← ez_17] at h9_; exact h9_)
        exact txI F hS dX6_reach_81 rfl (⟨(wkb hz_17 rfl rfl), (jr_0 (by omega) (by omega) gz_17), hH⟩)
      · skip
        refine tTabIn (off := 42) (tgt := 82) F dX6_reach_40 w_13 (by decide) (by decide) (by decide +kernel) (by decide) ?_
        refine lv_aload_n F.1 F.2.1 dX6_reach_82 rfl (lv_at hl 0 rfl) ?_
        refine tGetR (j := 2) F hK hH (tyb ha0 (all1 rfl)) rfl (all1 rfl) clX6 (by decide) wd_1_17 dX6_reach_83 (fun q_18 hq_18 _ => ?_)
        refine tGetR (j := 2) F hK hH (tyb hq_18 (all1 rfl)) rfl (all1 rfl) clX2 (by decide) wd_39_23 dX6_reach_86 (fun q_19 hq_19 _ => ?_)
        refine lv_iload_n F.1 F.2.1 dX6_reach_89 rfl (lv_at hl 1 rfl) ?_
        refine tIaldX F hK hH (tyb hq_19 (all1 rfl)) (ixb (n := 12) r_7 rfl rfl) dX6_reach_90 (fun z_20 ez_20 => ?_)
        have gz_20 : z_20.toInt = gI Kn (a1.toInt.toNat) := by unfold gI; rw [ez_20]; rfl
        have hz_20 : (-2147483648) ≤ z_20.toInt ∧ z_20.toInt ≤ 2147483647 := (by have h9_ := hKn (a1).toNatClampNeg (cl_lt (n := 12) (by omega)); rw [← ez_20] at h9_; exact h9_)
        exact txI F hS dX6_reach_91 rfl (⟨hz_20, (jr_1 (by omega) (by omega) gz_20), hH⟩)
      · skip
        refine tTabIn (off := 52) (tgt := 92) F dX6_reach_40 w_13 (by decide) (by decide) (by decide +kernel) (by decide) ?_
        refine lv_aload_n F.1 F.2.1 dX6_reach_92 rfl (lv_at hl 0 rfl) ?_
        refine tGetR (j := 2) F hK hH (tyb ha0 (all1 rfl)) rfl (all1 rfl) clX6 (by decide) wd_1_17 dX6_reach_93 (fun q_21 hq_21 _ => ?_)
        refine lv_iload_n F.1 F.2.1 dX6_reach_96 rfl (lv_at hl 1 rfl) ?_
        refine tVi (b := q_21) (As := [.int a1]) (rest := []) F hK hN hO (c_X2_countInto_1 E (dayD (.inl (0, 18))) (dayD (.inl (0, 18))) (riverD (.inl Fa2) (.inl Fb2) (.inl (0, 4)) 32 34 36 40 44 48) (rcD (.inl (t, t)) (.inr [26]) (.inr ks) (.inl kb)) rd tp A14F A14F A4F A4F A14F A14F (riverD (.inl Fa3) (.inl Fb3) (.inl (0, 4)) 3 8 3 41 45 49) (riverD (.inl Fa4) (.inl Fb4) (.inl (0, 4)) 3 8 3 42 46 50) ((.inr (.inl (0, 12, Pd2)))) ((.inr (.inl (0, 12, Pd3)))) ((.inr (.inl (0, 12, Pd4)))) ((.inr (.inl (0, 12, Ps2)))) ((.inr (.inl (0, 12, Ps3)))) ((.inr (.inl (0, 12, Ps4)))) ((.inr (.inl (0, 48, Pi2)))) ((.inr (.inl (0, 48, Pi3)))) ((.inr (.inl (0, 48, Pi4)))) Fb1 a D Kn Q q_21 a1 hq_21 (by omega) hD hKn hQ hFb1) mv_X2_countInto wd_40_0 ⟨Nat.le_of_ble_eq_true rfl, Nat.le_of_ble_eq_true rfl⟩ ⟨Nat.le_of_ble_eq_true rfl, Nat.le_of_ble_eq_true rfl⟩ hH hS (tRecv hK hH (tyb hq_21 (all1 rfl)) clX2) rfl hl.1 (Nat.le_of_ble_eq_true rfl) dX6_reach_97 (fun z_22 H locs hq hS => ?_)
        obtain ⟨f_23, f_24, hH⟩ := hq
        have hH : TH E (tbC (dayD (.inl (0, 18))) (dayD (.inl (0, 18))) (riverD (.inl (a, a)) (.inl Fb1) (.inl (0, 4)) 31 33 35 39 43 47) (riverD (.inl Fa2) (.inl Fb2) (.inl (0, 4)) 32 34 36 40 44 48) (rcD (.inl (t, t)) (.inr [26]) (.inr ks) (.inl kb)) rd tp A14F A14F A4F A4F A14F A14F (riverD (.inl Fa3) (.inl Fb3) (.inl (0, 4)) 3 8 3 41 45 49) (riverD (.inl Fa4) (.inl Fb4) (.inl (0, 4)) 3 8 3 42 46 50) (xD 12 D) ((.inr (.inl (0, 12, Pd2)))) ((.inr (.inl (0, 12, Pd3)))) ((.inr (.inl (0, 12, Pd4)))) (xD 12 Kn) ((.inr (.inl (0, 12, Ps2)))) ((.inr (.inl (0, 12, Ps3)))) ((.inr (.inl (0, 12, Ps4)))) (xD 48 Q) ((.inr (.inl (0, 48, Pi2)))) ((.inr (.inl (0, 48, Pi3)))) ((.inr (.inl (0, 48, Pi4))))) H := hH
        exact txI F hS dX6_reach_100 rfl (⟨f_23, (jr_2 (by omega) (by omega) f_24), hH⟩)
      · skip
        refine tTabIn (off := 61) (tgt := 101) F dX6_reach_40 w_13 (by decide) (by decide) (by decide +kernel) (by decide) ?_
        refine lv_aload_n F.1 F.2.1 dX6_reach_101 rfl (lv_at hl 0 rfl) ?_
        refine tGetR (j := 2) F hK hH (tyb ha0 (all1 rfl)) rfl (all1 rfl) clX6 (by decide) wd_1_17 dX6_reach_102 (fun q_25 hq_25 _ => ?_)
        refine lv_iload_n F.1 F.2.1 dX6_reach_105 rfl (lv_at hl 1 rfl) ?_
        refine tVi (b := q_25) (As := [.int a1]) (rest := []) F hK hN hO (c_X2_countToMouth_1 E (dayD (.inl (0, 18))) (dayD (.inl (0, 18))) (riverD (.inl Fa2) (.inl Fb2) (.inl (0, 4)) 32 34 36 40 44 48) (rcD (.inl (t, t)) (.inr [26]) (.inr ks) (.inl kb)) rd tp A14F A14F A4F A4F A14F A14F (riverD (.inl Fa3) (.inl Fb3) (.inl (0, 4)) 3 8 3 41 45 49) (riverD (.inl Fa4) (.inl Fb4) (.inl (0, 4)) 3 8 3 42 46 50) ((.inr (.inl (0, 12, Pd2)))) ((.inr (.inl (0, 12, Pd3)))) ((.inr (.inl (0, 12, Pd4)))) ((.inr (.inl (0, 12, Ps2)))) ((.inr (.inl (0, 12, Ps3)))) ((.inr (.inl (0, 12, Ps4)))) ((.inr (.inl (0, 48, Pi2)))) ((.inr (.inl (0, 48, Pi3)))) ((.inr (.inl (0, 48, Pi4)))) Fb1 a D Kn Q q_25 a1 hq_25 r_7 (by omega) hD hKn hQ hFb1) mv_X2_countToMouth wd_40_4 ⟨Nat.le_of_ble_eq_true rfl, Nat.le_of_ble_eq_true rfl⟩ ⟨Nat.le_of_ble_eq_true rfl, Nat.le_of_ble_eq_true rfl⟩ hH hS (tRecv hK hH (tyb hq_25 (all1 rfl)) clX2) rfl hl.1 (Nat.le_of_ble_eq_true rfl) dX6_reach_106 (fun z_26 H locs hq hS => ?_)
        obtain ⟨f_27, f_28, hH⟩ := hq
        have hH : TH E (tbC (dayD (.inl (0, 18))) (dayD (.inl (0, 18))) (riverD (.inl (a, a)) (.inl Fb1) (.inl (0, 4)) 31 33 35 39 43 47) (riverD (.inl Fa2) (.inl Fb2) (.inl (0, 4)) 32 34 36 40 44 48) (rcD (.inl (t, t)) (.inr [26]) (.inr ks) (.inl kb)) rd tp A14F A14F A4F A4F A14F A14F (riverD (.inl Fa3) (.inl Fb3) (.inl (0, 4)) 3 8 3 41 45 49) (riverD (.inl Fa4) (.inl Fb4) (.inl (0, 4)) 3 8 3 42 46 50) (xD 12 D) ((.inr (.inl (0, 12, Pd2)))) ((.inr (.inl (0, 12, Pd3)))) ((.inr (.inl (0, 12, Pd4)))) (xD 12 Kn) ((.inr (.inl (0, 12, Ps2)))) ((.inr (.inl (0, 12, Ps3)))) ((.inr (.inl (0, 12, Ps4)))) (xD 48 Q) ((.inr (.inl (0, 48, Pi2)))) ((.inr (.inl (0, 48, Pi3)))) ((.inr (.inl (0, 48, Pi4))))) H := hH
        exact txI F hS dX6_reach_109 rfl (⟨f_27, (jr_3 (by omega) (by omega) f_28), hH⟩)
    · skip
      have r_12 : 10 ≤ a2.toInt ∧ a2.toInt ≤ 2147483647 := by have h9_ := (i32b a2); omega
      refine lv_iload_n F.1 F.2.1 dX6_reach_16 rfl (lv_at hl 2 rfl) ?_
      refine lv_bipush (v := 14) F.1 F.2.1 dX6_reach_17 (by decide) ?_
      refine topK (a := 14) (by decide) (fun k_29 hk_29 => ?_)
      refine b_ge (tgt := 39) F dX6_reach_19 (by decide) (fun c_30 => ?_) (fun c_30 => ?_)
      · skip
        have r_31 : 14 ≤ a2.toInt ∧ a2.toInt ≤ 2147483647 := by have h9_ := r_12; omega
        refine lv_iload_n F.1 F.2.1 dX6_reach_39 rfl (lv_at hl 2 rfl) ?_
        rcases (by omega : (a2.toInt < 0 ∨ 3 < a2.toInt) ∨ a2.toInt = 0 ∨ a2.toInt = 1 ∨ a2.toInt = 2 ∨ a2.toInt = 3) with w_33 | w_33 | w_33 | w_33 | w_33
        · skip
          refine tTabOut (tgt := 110) F dX6_reach_40 w_33 (by decide) ?_
          refine lv_iconst (v := (-1)) F.1 F.2.1 dX6_reach_110 (by decide) ?_
          refine topK (a := (-1)) (by decide) (fun k_34 hk_34 => ?_)
          exact txI F hS dX6_reach_111 rfl (⟨(wkb (eqb hk_34) rfl rfl), (jr_d (by omega) (by omega) (by omega)), hH⟩)
        · skip
          exact absurd w_33 (by omega)
        · skip
          exact absurd w_33 (by omega)
        · skip
          exact absurd w_33 (by omega)
        · skip
          exact absurd w_33 (by omega)
      · skip
        have r_32 : 10 ≤ a2.toInt ∧ a2.toInt ≤ 13 := by have h9_ := r_12; omega
        refine lv_aload_n F.1 F.2.1 dX6_reach_22 rfl (lv_at hl 0 rfl) ?_
        refine tGetR (j := 2) F hK hH (tyb ha0 (all1 rfl)) rfl (all1 rfl) clX6 (by decide) wd_1_17 dX6_reach_23 (fun q_35 hq_35 _ => ?_)
        refine tGetR (j := 3) F hK hH (tyb hq_35 (all1 rfl)) rfl (all1 rfl) clX2 (by decide) wd_39_21 dX6_reach_26 (fun q_36 hq_36 _ => ?_)
        refine lv_iload_n F.1 F.2.1 dX6_reach_29 rfl (lv_at hl 1 rfl) ?_
        refine lv_iconst (v := 4) F.1 F.2.1 dX6_reach_30 (by decide) ?_
        refine topK (a := 4) (by decide) (fun k_37 hk_37 => ?_)
        refine tMul (lo := 0) (hi := 44) F dX6_reach_31 r_7 (eqb hk_37) rfl (fun z_38 hz_38 => ?_)
        have mz_38 : z_38.toInt = a1.toInt * 4 := by rw [hz_38.1, hk_37]
        refine lv_iload_n F.1 F.2.1 dX6_reach_32 rfl (lv_at hl 2 rfl) ?_
        refine tAdd (lo := 10) (hi := 57) F dX6_reach_33 hz_38.2 r_32 rfl (fun z_39 hz_39 => ?_)
        refine lv_bipush (v := 10) F.1 F.2.1 dX6_reach_34 (by decide) ?_
        refine topK (a := 10) (by decide) (fun k_40 hk_40 => ?_)
        refine tSub (lo := 0) (hi := 47) F dX6_reach_36 hz_39.2 (eqb hk_40) rfl (fun z_41 hz_41 => ?_)
        refine tIaldX F hK hH (tyb hq_36 (all1 rfl)) (ixb (n := 48) hz_41.2 rfl rfl) dX6_reach_37 (fun z_42 ez_42 => ?_)
        have gz_42 : z_42.toInt = gI Q (z_41.toInt.toNat) := by unfold gI; rw [ez_42]; rfl
        have hz_42 : (-2147483648) ≤ z_42.toInt ∧ z_42.toInt ≤ 2147483647 := (by have h9_ := hQ (z_41).toNatClampNeg (cl_lt (n := 48) (by omega)); rw [← ez_42] at h9_; exact h9_)
        exact txI F hS dX6_reach_38 rfl (⟨hz_42, (jr_q (by omega) (by omega) gz_42 (by omega)), hH⟩)
  · skip
    have r_8 : 0 ≤ z_1.toInt ∧ z_1.toInt ≤ 0 := by have h9_ := f_2; omega
    refine lv_iconst (v := (-1)) F.1 F.2.1 dX6_reach_8 (by decide) ?_
    refine topK (a := (-1)) (by decide) (fun k_43 hk_43 => ?_)
    exact txI F hS dX6_reach_9 rfl (⟨(wkb (eqb hk_43) rfl rfl), (jr_no (by omega) (by omega)), hH⟩)
set_option maxHeartbeats 4000000 in
set_option maxRecDepth 100000 in
theorem c_X6_reach_2 (E : Ev) (rd : TD) (tp : TD) (kb : Int × Int) (Fa1 : Int × Int) (Fb1 : Int × Int) (Fb2 : Int × Int) (Fa3 : Int × Int) (Fb3 : Int × Int) (Fa4 : Int × Int) (Fb4 : Int × Int) (ks : List Nat) (Pd1 : (Nat → Int32) → Prop) (Pd3 : (Nat → Int32) → Prop) (Pd4 : (Nat → Int32) → Prop) (Ps1 : (Nat → Int32) → Prop) (Ps3 : (Nat → Int32) → Prop) (Ps4 : (Nat → Int32) → Prop) (Pi1 : (Nat → Int32) → Prop) (Pi3 : (Nat → Int32) → Prop) (Pi4 : (Nat → Int32) → Prop) (a : Int) (t : Int) (D : Nat → Int32) (Kn : Nat → Int32) (Q : Nat → Int32) (a0 : Nat) (a1 : Int32) (a2 : Int32) (ha0 : eT E a0 ∈ [28]) (ha : 0 ≤ a ∧ a ≤ 12) (ht : 0 ≤ t ∧ t ≤ 400) (hD : ivP 12 (-2) 11 D) (hKn : ivP 12 (-2147483648) 2147483647 Kn) (hQ : ivP 48 (-2147483648) 2147483647 Q) (hFa1 : 0 ≤ Fa1.1 ∧ Fa1.2 ≤ 12) (hFb1 : 0 ≤ Fb1.1 ∧ Fb1.2 ≤ 14) (hFb2 : 0 ≤ Fb2.1 ∧ Fb2.2 ≤ 14) (hFa3 : 0 ≤ Fa3.1 ∧ Fa3.2 ≤ 12) (hFb3 : 0 ≤ Fb3.1 ∧ Fb3.2 ≤ 14) (hFa4 : 0 ≤ Fa4.1 ∧ Fa4.2 ≤ 12) (hFb4 : 0 ≤ Fb4.1 ∧ Fb4.2 ≤ 14) (hks : ∀ t ∈ ks, t ∈ [26, 27]) (hPd1 : ∀ f, Pd1 f → ivP 12 (-2) 11 f) (hPd3 : ∀ f, Pd3 f → ivP 12 (-2) 11 f) (hPd4 : ∀ f, Pd4 f → ivP 12 (-2) 11 f) (hPs1 : ∀ f, Ps1 f → ivP 12 (-2147483648) 2147483647 f) (hPs3 : ∀ f, Ps3 f → ivP 12 (-2147483648) 2147483647 f) (hPs4 : ∀ f, Ps4 f → ivP 12 (-2147483648) 2147483647 f) (hPi1 : ∀ f, Pi1 f → ivP 48 (-2147483648) 2147483647 f) (hPi3 : ∀ f, Pi3 f → ivP 48 (-2147483648) 2147483647 f) (hPi4 : ∀ f, Pi4 f → ivP 48 (-2147483648) 2147483647 f) : TcI E yX6_reach cX6_reach 3 .int ({ frames := 2, cells := 0, slots := 0, locals := 64 }) [.ref a0, .int a1, .int a2] (fun H => TH E (tbC (dayD (.inl (0, 18))) (dayD (.inl (0, 18))) (riverD (.inl Fa1) (.inl Fb1) (.inl (0, 4)) 31 33 35 39 43 47) (riverD (.inl (a, a)) (.inl Fb2) (.inl (0, 4)) 32 34 36 40 44 48) (rcD (.inl (t, t)) (.inr [27]) (.inr ks) (.inl kb)) rd tp A14F A14F A4F A4F A14F A14F (riverD (.inl Fa3) (.inl Fb3) (.inl (0, 4)) 3 8 3 41 45 49) (riverD (.inl Fa4) (.inl Fb4) (.inl (0, 4)) 3 8 3 42 46 50) ((.inr (.inl (0, 12, Pd1)))) (xD 12 D) ((.inr (.inl (0, 12, Pd3)))) ((.inr (.inl (0, 12, Pd4)))) ((.inr (.inl (0, 12, Ps1)))) (xD 12 Kn) ((.inr (.inl (0, 12, Ps3)))) ((.inr (.inl (0, 12, Ps4)))) ((.inr (.inl (0, 48, Pi1)))) (xD 48 Q) ((.inr (.inl (0, 48, Pi3)))) ((.inr (.inl (0, 48, Pi4))))) H) (fun v H => ((-2147483648) ≤ v.toInt ∧ v.toInt ≤ 2147483647) ∧ (v.toInt = jReach a D Kn Q a1.toInt a2.toInt) ∧ TH E (tbC (dayD (.inl (0, 18))) (dayD (.inl (0, 18))) (riverD (.inl Fa1) (.inl Fb1) (.inl (0, 4)) 31 33 35 39 43 47) (riverD (.inl (a, a)) (.inl Fb2) (.inl (0, 4)) 32 34 36 40 44 48) (rcD (.inl (t, t)) (.inr [27]) (.inr ks) (.inl kb)) rd tp A14F A14F A4F A4F A14F A14F (riverD (.inl Fa3) (.inl Fb3) (.inl (0, 4)) 3 8 3 41 45 49) (riverD (.inl Fa4) (.inl Fb4) (.inl (0, 4)) 3 8 3 42 46 50) ((.inr (.inl (0, 12, Pd1)))) (xD 12 D) ((.inr (.inl (0, 12, Pd3)))) ((.inr (.inl (0, 12, Pd4)))) ((.inr (.inl (0, 12, Ps1)))) (xD 12 Kn) ((.inr (.inl (0, 12, Ps3)))) ((.inr (.inl (0, 12, Ps4)))) ((.inr (.inl (0, 48, Pi1)))) (xD 48 Q) ((.inr (.inl (0, 48, Pi3)))) ((.inr (.inl (0, 48, Pi4))))) H) := by
  refine teI (by decide) (Nat.le_of_ble_eq_true rfl) ?_
  intro p_ ev_ s mi_ below_ meth cd_ ls F hK hN hO hH hS hl
  have hH : TH E (tbC (dayD (.inl (0, 18))) (dayD (.inl (0, 18))) (riverD (.inl Fa1) (.inl Fb1) (.inl (0, 4)) 31 33 35 39 43 47) (riverD (.inl (a, a)) (.inl Fb2) (.inl (0, 4)) 32 34 36 40 44 48) (rcD (.inl (t, t)) (.inr [27]) (.inr ks) (.inl kb)) rd tp A14F A14F A4F A4F A14F A14F (riverD (.inl Fa3) (.inl Fb3) (.inl (0, 4)) 3 8 3 41 45 49) (riverD (.inl Fa4) (.inl Fb4) (.inl (0, 4)) 3 8 3 42 46 50) ((.inr (.inl (0, 12, Pd1)))) (xD 12 D) ((.inr (.inl (0, 12, Pd3)))) ((.inr (.inl (0, 12, Pd4)))) ((.inr (.inl (0, 12, Ps1)))) (xD 12 Kn) ((.inr (.inl (0, 12, Ps3)))) ((.inr (.inl (0, 12, Ps4)))) ((.inr (.inl (0, 48, Pi1)))) (xD 48 Q) ((.inr (.inl (0, 48, Pi3)))) ((.inr (.inl (0, 48, Pi4))))) s.heap := hH
  have hl : lv_has ls 3 [(0, .ref a0), (1, .int a1), (2, .int a2)] := hl
  refine lv_aload_n F.1 F.2.1 dX6_reach_0 rfl (lv_at hl 0 rfl) ?_
  refine lv_iload_n F.1 F.2.1 dX6_reach_1 rfl (lv_at hl 1 rfl) ?_
  refine tVi (b := a0) (As := [.int a1]) (rest := []) F hK hN hO (c_X6_isReach_2 E rd tp kb Fa1 Fb1 Fb2 Fa3 Fb3 Fa4 Fb4 ks Pd1 Pd3 Pd4 Ps1 Ps3 Ps4 Pi1 Pi3 Pi4 a t D Kn Q a0 a1 ha0 (by omega) (by omega) hD hKn hQ hFa1 hFb1 hFb2 hFa3 hFb3 hFa4 hFb4 hks hPd1 hPd3 hPd4 hPs1 hPs3 hPs4 hPi1 hPi3 hPi4) mv_X6_isReach wd_34_6 ⟨Nat.le_of_ble_eq_true rfl, Nat.le_of_ble_eq_true rfl⟩ ⟨Nat.le_of_ble_eq_true rfl, Nat.le_of_ble_eq_true rfl⟩ hH hS (tRecv hK hH (tyb ha0 (all1 rfl)) clX6) rfl hl.1 (Nat.le_of_ble_eq_true rfl) dX6_reach_2 (fun z_1 H locs hq hS => ?_)
  obtain ⟨f_2, f_3, f_4, hH⟩ := hq
  have hH : TH E (tbC (dayD (.inl (0, 18))) (dayD (.inl (0, 18))) (riverD (.inl Fa1) (.inl Fb1) (.inl (0, 4)) 31 33 35 39 43 47) (riverD (.inl (a, a)) (.inl Fb2) (.inl (0, 4)) 32 34 36 40 44 48) (rcD (.inl (t, t)) (.inr [27]) (.inr ks) (.inl kb)) rd tp A14F A14F A4F A4F A14F A14F (riverD (.inl Fa3) (.inl Fb3) (.inl (0, 4)) 3 8 3 41 45 49) (riverD (.inl Fa4) (.inl Fb4) (.inl (0, 4)) 3 8 3 42 46 50) ((.inr (.inl (0, 12, Pd1)))) (xD 12 D) ((.inr (.inl (0, 12, Pd3)))) ((.inr (.inl (0, 12, Pd4)))) ((.inr (.inl (0, 12, Ps1)))) (xD 12 Kn) ((.inr (.inl (0, 12, Ps3)))) ((.inr (.inl (0, 12, Ps4)))) ((.inr (.inl (0, 48, Pi1)))) (xD 48 Q) ((.inr (.inl (0, 48, Pi3)))) ((.inr (.inl (0, 48, Pi4))))) H := hH
  refine z_ne (tgt := 10) F dX6_reach_5 (by decide) (fun c_5 => ?_) (fun c_5 => ?_)
  · skip
    have r_6 : 1 ≤ z_1.toInt ∧ z_1.toInt ≤ 1 := by have h9_ := f_2; omega
    have r_7 : 0 ≤ a1.toInt ∧ a1.toInt ≤ 11 := by have h9_ := (i32b a1); omega
    refine lv_iload_n F.1 F.2.1 dX6_reach_10 rfl (lv_at hl 2 rfl) ?_
    refine lv_bipush (v := 10) F.1 F.2.1 dX6_reach_11 (by decide) ?_
    refine topK (a := 10) (by decide) (fun k_9 hk_9 => ?_)
    refine b_lt (tgt := 39) F dX6_reach_13 (by decide) (fun c_10 => ?_) (fun c_10 => ?_)
    · skip
      have r_11 : (-2147483648) ≤ a2.toInt ∧ a2.toInt ≤ 9 := by have h9_ := (i32b a2); omega
      refine lv_iload_n F.1 F.2.1 dX6_reach_39 rfl (lv_at hl 2 rfl) ?_
      rcases (by omega : (a2.toInt < 0 ∨ 3 < a2.toInt) ∨ a2.toInt = 0 ∨ a2.toInt = 1 ∨ a2.toInt = 2 ∨ a2.toInt = 3) with w_13 | w_13 | w_13 | w_13 | w_13
      · skip
        refine tTabOut (tgt := 110) F dX6_reach_40 w_13 (by decide) ?_
        refine lv_iconst (v := (-1)) F.1 F.2.1 dX6_reach_110 (by decide) ?_
        refine topK (a := (-1)) (by decide) (fun k_14 hk_14 => ?_)
        exact txI F hS dX6_reach_111 rfl (⟨(wkb (eqb hk_14) rfl rfl), (jr_d (by omega) (by omega) (by omega)), hH⟩)
      · skip
        refine tTabIn (off := 32) (tgt := 72) F dX6_reach_40 w_13 (by decide) (by decide) (by decide +kernel) (by decide) ?_
        refine lv_aload_n F.1 F.2.1 dX6_reach_72 rfl (lv_at hl 0 rfl) ?_
        refine tGetR (j := 2) F hK hH (tyb ha0 (all1 rfl)) rfl (all1 rfl) clX6 (by decide) wd_1_17 dX6_reach_73 (fun q_15 hq_15 _ => ?_)
        refine tGetR (j := 1) F hK hH (tyb hq_15 (all1 rfl)) rfl (all1 rfl) clX2 (by decide) wd_39_22 dX6_reach_76 (fun q_16 hq_16 _ => ?_)
        refine lv_iload_n F.1 F.2.1 dX6_reach_79 rfl (lv_at hl 1 rfl) ?_
        refine tIaldX F hK hH (tyb hq_16 (all1 rfl)) (ixb (n := 12) r_7 rfl rfl) dX6_reach_80 (fun z_17 ez_17 => ?_)
        have gz_17 : z_17.toInt = gI D (a1.toInt.toNat) := by unfold gI; rw [ez_17]; rfl
        have hz_17 : (-2) ≤ z_17.toInt ∧ z_17.toInt ≤ 11 := (by have h9_ := hD (a1).toNatClampNeg (cl_lt (n := 12) (by omega)); rw [← ez_17] at h9_; exact h9_)
        exact txI F hS dX6_reach_81 rfl (⟨(wkb hz_17 rfl rfl), (jr_0 (by omega) (by omega) gz_17), hH⟩)
      · skip
        refine tTabIn (off := 42) (tgt := 82) F dX6_reach_40 w_13 (by decide) (by decide) (by decide +kernel) (by decide) ?_
        refine lv_aload_n F.1 F.2.1 dX6_reach_82 rfl (lv_at hl 0 rfl) ?_
        refine tGetR (j := 2) F hK hH (tyb ha0 (all1 rfl)) rfl (all1 rfl) clX6 (by decide) wd_1_17 dX6_reach_83 (fun q_18 hq_18 _ => ?_)
        refine tGetR (j := 2) F hK hH (tyb hq_18 (all1 rfl)) rfl (all1 rfl) clX2 (by decide) wd_39_23 dX6_reach_86 (fun q_19 hq_19 _ => ?_)
        refine lv_iload_n F.1 F.2.1 dX6_reach_89 rfl (lv_at hl 1 rfl) ?_
        refine tIaldX F hK hH (tyb hq_19 (all1 rfl)) (ixb (n := 12) r_7 rfl rfl) dX6_reach_90 (fun z_20 ez_20 => ?_)
        have gz_20 : z_20.toInt = gI Kn (a1.toInt.toNat) := by unfold gI; rw [ez_20]; rfl
        have hz_20 : (-2147483648) ≤ z_20.toInt ∧ z_20.toInt ≤ 2147483647 := (by have h9_ := hKn (a1).toNatClampNeg (cl_lt (n := 12) (by omega)); rw [← ez_20] at h9_; exact h9_)
        exact txI F hS dX6_reach_91 rfl (⟨hz_20, (jr_1 (by omega) (by omega) gz_20), hH⟩)
      · skip
        refine tTabIn (off := 52) (tgt := 92) F dX6_reach_40 w_13 (by decide) (by decide) (by decide +kernel) (by decide) ?_
        refine lv_aload_n F.1 F.2.1 dX6_reach_92 rfl (lv_at hl 0 rfl) ?_
        refine tGetR (j := 2) F hK hH (tyb ha0 (all1 rfl)) rfl (all1 rfl) clX6 (by decide) wd_1_17 dX6_reach_93 (fun q_21 hq_21 _ => ?_)
        refine lv_iload_n F.1 F.2.1 dX6_reach_96 rfl (lv_at hl 1 rfl) ?_
        refine tVi (b := q_21) (As := [.int a1]) (rest := []) F hK hN hO (c_X2_countInto_2 E (dayD (.inl (0, 18))) (dayD (.inl (0, 18))) (riverD (.inl Fa1) (.inl Fb1) (.inl (0, 4)) 31 33 35 39 43 47) (rcD (.inl (t, t)) (.inr [27]) (.inr ks) (.inl kb)) rd tp A14F A14F A4F A4F A14F A14F (riverD (.inl Fa3) (.inl Fb3) (.inl (0, 4)) 3 8 3 41 45 49) (riverD (.inl Fa4) (.inl Fb4) (.inl (0, 4)) 3 8 3 42 46 50) ((.inr (.inl (0, 12, Pd1)))) ((.inr (.inl (0, 12, Pd3)))) ((.inr (.inl (0, 12, Pd4)))) ((.inr (.inl (0, 12, Ps1)))) ((.inr (.inl (0, 12, Ps3)))) ((.inr (.inl (0, 12, Ps4)))) ((.inr (.inl (0, 48, Pi1)))) ((.inr (.inl (0, 48, Pi3)))) ((.inr (.inl (0, 48, Pi4)))) Fb2 a D Kn Q q_21 a1 hq_21 (by omega) hD hKn hQ hFb2) mv_X2_countInto wd_40_0 ⟨Nat.le_of_ble_eq_true rfl, Nat.le_of_ble_eq_true rfl⟩ ⟨Nat.le_of_ble_eq_true rfl, Nat.le_of_ble_eq_true rfl⟩ hH hS (tRecv hK hH (tyb hq_21 (all1 rfl)) clX2) rfl hl.1 (Nat.le_of_ble_eq_true rfl) dX6_reach_97 (fun z_22 H locs hq hS => ?_)
        obtain ⟨f_23, f_24, hH⟩ := hq
        have hH : TH E (tbC (dayD (.inl (0, 18))) (dayD (.inl (0, 18))) (riverD (.inl Fa1) (.inl Fb1) (.inl (0, 4)) 31 33 35 39 43 47) (riverD (.inl (a, a)) (.inl Fb2) (.inl (0, 4)) 32 34 36 40 44 48) (rcD (.inl (t, t)) (.inr [27]) (.inr ks) (.inl kb)) rd tp A14F A14F A4F A4F A14F A14F (riverD (.inl Fa3) (.inl Fb3) (.inl (0, 4)) 3 8 3 41 45 49) (riverD (.inl Fa4) (.inl Fb4) (.inl (0, 4)) 3 8 3 42 46 50) ((.inr (.inl (0, 12, Pd1)))) (xD 12 D) ((.inr (.inl (0, 12, Pd3)))) ((.inr (.inl (0, 12, Pd4)))) ((.inr (.inl (0, 12, Ps1)))) (xD 12 Kn) ((.inr (.inl (0, 12, Ps3)))) ((.inr (.inl (0, 12, Ps4)))) ((.inr (.inl (0, 48, Pi1)))) (xD 48 Q) ((.inr (.inl (0, 48, Pi3)))) ((.inr (.inl (0, 48, Pi4))))) H := hH
        exact txI F hS dX6_reach_100 rfl (⟨f_23, (jr_2 (by omega) (by omega) f_24), hH⟩)
      · skip
        refine tTabIn (off := 61) (tgt := 101) F dX6_reach_40 w_13 (by decide) (by decide) (by decide +kernel) (by decide) ?_
        refine lv_aload_n F.1 F.2.1 dX6_reach_101 rfl (lv_at hl 0 rfl) ?_
        refine tGetR (j := 2) F hK hH (tyb ha0 (all1 rfl)) rfl (all1 rfl) clX6 (by decide) wd_1_17 dX6_reach_102 (fun q_25 hq_25 _ => ?_)
        refine lv_iload_n F.1 F.2.1 dX6_reach_105 rfl (lv_at hl 1 rfl) ?_
        refine tVi (b := q_25) (As := [.int a1]) (rest := []) F hK hN hO (c_X2_countToMouth_2 E (dayD (.inl (0, 18))) (dayD (.inl (0, 18))) (riverD (.inl Fa1) (.inl Fb1) (.inl (0, 4)) 31 33 35 39 43 47) (rcD (.inl (t, t)) (.inr [27]) (.inr ks) (.inl kb)) rd tp A14F A14F A4F A4F A14F A14F (riverD (.inl Fa3) (.inl Fb3) (.inl (0, 4)) 3 8 3 41 45 49) (riverD (.inl Fa4) (.inl Fb4) (.inl (0, 4)) 3 8 3 42 46 50) ((.inr (.inl (0, 12, Pd1)))) ((.inr (.inl (0, 12, Pd3)))) ((.inr (.inl (0, 12, Pd4)))) ((.inr (.inl (0, 12, Ps1)))) ((.inr (.inl (0, 12, Ps3)))) ((.inr (.inl (0, 12, Ps4)))) ((.inr (.inl (0, 48, Pi1)))) ((.inr (.inl (0, 48, Pi3)))) ((.inr (.inl (0, 48, Pi4)))) Fb2 a D Kn Q q_25 a1 hq_25 r_7 (by omega) hD hKn hQ hFb2) mv_X2_countToMouth wd_40_4 ⟨Nat.le_of_ble_eq_true rfl, Nat.le_of_ble_eq_true rfl⟩ ⟨Nat.le_of_ble_eq_true rfl, Nat.le_of_ble_eq_true rfl⟩ hH hS (tRecv hK hH (tyb hq_25 (all1 rfl)) clX2) rfl hl.1 (Nat.le_of_ble_eq_true rfl) dX6_reach_106 (fun z_26 H locs hq hS => ?_)
        obtain ⟨f_27, f_28, hH⟩ := hq
        have hH : TH E (tbC (dayD (.inl (0, 18))) (dayD (.inl (0, 18))) (riverD (.inl Fa1) (.inl Fb1) (.inl (0, 4)) 31 33 35 39 43 47) (riverD (.inl (a, a)) (.inl Fb2) (.inl (0, 4)) 32 34 36 40 44 48) (rcD (.inl (t, t)) (.inr [27]) (.inr ks) (.inl kb)) rd tp A14F A14F A4F A4F A14F A14F (riverD (.inl Fa3) (.inl Fb3) (.inl (0, 4)) 3 8 3 41 45 49) (riverD (.inl Fa4) (.inl Fb4) (.inl (0, 4)) 3 8 3 42 46 50) ((.inr (.inl (0, 12, Pd1)))) (xD 12 D) ((.inr (.inl (0, 12, Pd3)))) ((.inr (.inl (0, 12, Pd4)))) ((.inr (.inl (0, 12, Ps1)))) (xD 12 Kn) ((.inr (.inl (0, 12, Ps3)))) ((.inr (.inl (0, 12, Ps4)))) ((.inr (.inl (0, 48, Pi1)))) (xD 48 Q) ((.inr (.inl (0, 48, Pi3)))) ((.inr (.inl (0, 48, Pi4))))) H := hH
        exact txI F hS dX6_reach_109 rfl (⟨f_27, (jr_3 (by omega) (by omega) f_28), hH⟩)
    · skip
      have r_12 : 10 ≤ a2.toInt ∧ a2.toInt ≤ 2147483647 := by have h9_ := (i32b a2); omega
      refine lv_iload_n F.1 F.2.1 dX6_reach_16 rfl (lv_at hl 2 rfl) ?_
      refine lv_bipush (v := 14) F.1 F.2.1 dX6_reach_17 (by decide) ?_
      refine topK (a := 14) (by decide) (fun k_29 hk_29 => ?_)
      refine b_ge (tgt := 39) F dX6_reach_19 (by decide) (fun c_30 => ?_) (fun c_30 => ?_)
      · skip
        have r_31 : 14 ≤ a2.toInt ∧ a2.toInt ≤ 2147483647 := by have h9_ := r_12; omega
        refine lv_iload_n F.1 F.2.1 dX6_reach_39 rfl (lv_at hl 2 rfl) ?_
        rcases (by omega : (a2.toInt < 0 ∨ 3 < a2.toInt) ∨ a2.toInt = 0 ∨ a2.toInt = 1 ∨ a2.toInt = 2 ∨ a2.toInt = 3) with w_33 | w_33 | w_33 | w_33 | w_33
        · skip
          refine tTabOut (tgt := 110) F dX6_reach_40 w_33 (by decide) ?_
          refine lv_iconst (v := (-1)) F.1 F.2.1 dX6_reach_110 (by decide) ?_
          refine topK (a := (-1)) (by decide) (fun k_34 hk_34 => ?_)
          exact txI F hS dX6_reach_111 rfl (⟨(wkb (eqb hk_34) rfl rfl), (jr_d (by omega) (by omega) (by omega)), hH⟩)
        · skip
          exact absurd w_33 (by omega)
        · skip
          exact absurd w_33 (by omega)
        · skip
          exact absurd w_33 (by omega)
        · skip
          exact absurd w_33 (by omega)
      · skip
        have r_32 : 10 ≤ a2.toInt ∧ a2.toInt ≤ 13 := by have h9_ := r_12; omega
        refine lv_aload_n F.1 F.2.1 dX6_reach_22 rfl (lv_at hl 0 rfl) ?_
        refine tGetR (j := 2) F hK hH (tyb ha0 (all1 rfl)) rfl (all1 rfl) clX6 (by decide) wd_1_17 dX6_reach_23 (fun q_35 hq_35 _ => ?_)
        refine tGetR (j := 3) F hK hH (tyb hq_35 (all1 rfl)) rfl (all1 rfl) clX2 (by decide) wd_39_21 dX6_reach_26 (fun q_36 hq_36 _ => ?_)
        refine lv_iload_n F.1 F.2.1 dX6_reach_29 rfl (lv_at hl 1 rfl) ?_
        refine lv_iconst (v := 4) F.1 F.2.1 dX6_reach_30 (by decide) ?_
        refine topK (a := 4) (by decide) (fun k_37 hk_37 => ?_)
        refine tMul (lo := 0) (hi := 44) F dX6_reach_31 r_7 (eqb hk_37) rfl (fun z_38 hz_38 => ?_)
        have mz_38 : z_38.toInt = a1.toInt * 4 := by rw [hz_38.1, hk_37]
        refine lv_iload_n F.1 F.2.1 dX6_reach_32 rfl (lv_at hl 2 rfl) ?_
        refine tAdd (lo := 10) (hi := 57) F dX6_reach_33 hz_38.2 r_32 rfl (fun z_39 hz_39 => ?_)
        refine lv_bipush (v := 10) F.1 F.2.1 dX6_reach_34 (by decide) ?_
        refine topK (a := 10) (by decide) (fun k_40 hk_40 => ?_)
        refine tSub (lo := 0) (hi := 47) F dX6_reach_36 hz_39.2 (eqb hk_40) rfl (fun z_41 hz_41 => ?_)
        refine tIaldX F hK hH (tyb hq_36 (all1 rfl)) (ixb (n := 48) hz_41.2 rfl rfl) dX6_reach_37 (fun z_42 ez_42 => ?_)
        have gz_42 : z_42.toInt = gI Q (z_41.toInt.toNat) := by unfold gI; rw [ez_42]; rfl
        have hz_42 : (-2147483648) ≤ z_42.toInt ∧ z_42.toInt ≤ 2147483647 := (by have h9_ := hQ (z_41).toNatClampNeg (cl_lt (n := 48) (by omega)); rw [← ez_42] at h9_; exact h9_)
        exact txI F hS dX6_reach_38 rfl (⟨hz_42, (jr_q (by omega) (by omega) gz_42 (by omega)), hH⟩)
  · skip
    have r_8 : 0 ≤ z_1.toInt ∧ z_1.toInt ≤ 0 := by have h9_ := f_2; omega
    refine lv_iconst (v := (-1)) F.1 F.2.1 dX6_reach_8 (by decide) ?_
    refine topK (a := (-1)) (by decide) (fun k_43 hk_43 => ?_)
    exact txI F hS dX6_reach_9 rfl (⟨(wkb (eqb hk_43) rfl rfl), (jr_no (by omega) (by omega)), hH⟩)
set_option maxHeartbeats 4000000 in
set_option maxRecDepth 100000 in
theorem c_X6_above_1 (E : Ev) (rd : TD) (tp : TD) (kb : Int × Int) (Fb1 : Int × Int) (Fa2 : Int × Int) (Fb2 : Int × Int) (Fa3 : Int × Int) (Fb3 : Int × Int) (Fa4 : Int × Int) (Fb4 : Int × Int) (ks : List Nat) (Pd2 : (Nat → Int32) → Prop) (Pd3 : (Nat → Int32) → Prop) (Pd4 : (Nat → Int32) → Prop) (Ps2 : (Nat → Int32) → Prop) (Ps3 : (Nat → Int32) → Prop) (Ps4 : (Nat → Int32) → Prop) (Pi2 : (Nat → Int32) → Prop) (Pi3 : (Nat → Int32) → Prop) (Pi4 : (Nat → Int32) → Prop) (a : Int) (t : Int) (D : Nat → Int32) (Kn : Nat → Int32) (Q : Nat → Int32) (a0 : Nat) (a1 : Int32) (ha0 : eT E a0 ∈ [28]) (ha : 0 ≤ a ∧ a ≤ 12) (ht : 0 ≤ t ∧ t ≤ 400) (hD : ivP 12 (-2) 11 D) (hKn : ivP 12 (-2147483648) 2147483647 Kn) (hQ : ivP 48 (-2147483648) 2147483647 Q) (hFb1 : 0 ≤ Fb1.1 ∧ Fb1.2 ≤ 14) (hFa2 : 0 ≤ Fa2.1 ∧ Fa2.2 ≤ 12) (hFb2 : 0 ≤ Fb2.1 ∧ Fb2.2 ≤ 14) (hFa3 : 0 ≤ Fa3.1 ∧ Fa3.2 ≤ 12) (hFb3 : 0 ≤ Fb3.1 ∧ Fb3.2 ≤ 14) (hFa4 : 0 ≤ Fa4.1 ∧ Fa4.2 ≤ 12) (hFb4 : 0 ≤ Fb4.1 ∧ Fb4.2 ≤ 14) (hks : ∀ t ∈ ks, t ∈ [26, 27]) (hPd2 : ∀ f, Pd2 f → ivP 12 (-2) 11 f) (hPd3 : ∀ f, Pd3 f → ivP 12 (-2) 11 f) (hPd4 : ∀ f, Pd4 f → ivP 12 (-2) 11 f) (hPs2 : ∀ f, Ps2 f → ivP 12 (-2147483648) 2147483647 f) (hPs3 : ∀ f, Ps3 f → ivP 12 (-2147483648) 2147483647 f) (hPs4 : ∀ f, Ps4 f → ivP 12 (-2147483648) 2147483647 f) (hPi2 : ∀ f, Pi2 f → ivP 48 (-2147483648) 2147483647 f) (hPi3 : ∀ f, Pi3 f → ivP 48 (-2147483648) 2147483647 f) (hPi4 : ∀ f, Pi4 f → ivP 48 (-2147483648) 2147483647 f) : TcI E yX6_above cX6_above 4 .int ({ frames := 2, cells := 0, slots := 0, locals := 64 }) [.ref a0, .int a1] (fun H => TH E (tbC (dayD (.inl (0, 18))) (dayD (.inl (0, 18))) (riverD (.inl (a, a)) (.inl Fb1) (.inl (0, 4)) 31 33 35 39 43 47) (riverD (.inl Fa2) (.inl Fb2) (.inl (0, 4)) 32 34 36 40 44 48) (rcD (.inl (t, t)) (.inr [26]) (.inr ks) (.inl kb)) rd tp A14F A14F A4F A4F A14F A14F (riverD (.inl Fa3) (.inl Fb3) (.inl (0, 4)) 3 8 3 41 45 49) (riverD (.inl Fa4) (.inl Fb4) (.inl (0, 4)) 3 8 3 42 46 50) (xD 12 D) ((.inr (.inl (0, 12, Pd2)))) ((.inr (.inl (0, 12, Pd3)))) ((.inr (.inl (0, 12, Pd4)))) (xD 12 Kn) ((.inr (.inl (0, 12, Ps2)))) ((.inr (.inl (0, 12, Ps3)))) ((.inr (.inl (0, 12, Ps4)))) (xD 48 Q) ((.inr (.inl (0, 48, Pi2)))) ((.inr (.inl (0, 48, Pi3)))) ((.inr (.inl (0, 48, Pi4))))) H) (fun v H => ((-2147483648) ≤ v.toInt ∧ v.toInt ≤ 2147483647) ∧ (v.toInt = (jAbove a D a1.toInt).toInt) ∧ TH E (tbC (dayD (.inl (0, 18))) (dayD (.inl (0, 18))) (riverD (.inl (a, a)) (.inl Fb1) (.inl (0, 4)) 31 33 35 39 43 47) (riverD (.inl Fa2) (.inl Fb2) (.inl (0, 4)) 32 34 36 40 44 48) (rcD (.inl (t, t)) (.inr [26]) (.inr ks) (.inl kb)) rd tp A14F A14F A4F A4F A14F A14F (riverD (.inl Fa3) (.inl Fb3) (.inl (0, 4)) 3 8 3 41 45 49) (riverD (.inl Fa4) (.inl Fb4) (.inl (0, 4)) 3 8 3 42 46 50) (xD 12 D) ((.inr (.inl (0, 12, Pd2)))) ((.inr (.inl (0, 12, Pd3)))) ((.inr (.inl (0, 12, Pd4)))) (xD 12 Kn) ((.inr (.inl (0, 12, Ps2)))) ((.inr (.inl (0, 12, Ps3)))) ((.inr (.inl (0, 12, Ps4)))) (xD 48 Q) ((.inr (.inl (0, 48, Pi2)))) ((.inr (.inl (0, 48, Pi3)))) ((.inr (.inl (0, 48, Pi4))))) H) := by
  refine teI (by decide) (Nat.le_of_ble_eq_true rfl) ?_
  intro p_ ev_ s mi_ below_ meth cd_ ls F hK hN hO hH hS hl
  have hH : TH E (tbC (dayD (.inl (0, 18))) (dayD (.inl (0, 18))) (riverD (.inl (a, a)) (.inl Fb1) (.inl (0, 4)) 31 33 35 39 43 47) (riverD (.inl Fa2) (.inl Fb2) (.inl (0, 4)) 32 34 36 40 44 48) (rcD (.inl (t, t)) (.inr [26]) (.inr ks) (.inl kb)) rd tp A14F A14F A4F A4F A14F A14F (riverD (.inl Fa3) (.inl Fb3) (.inl (0, 4)) 3 8 3 41 45 49) (riverD (.inl Fa4) (.inl Fb4) (.inl (0, 4)) 3 8 3 42 46 50) (xD 12 D) ((.inr (.inl (0, 12, Pd2)))) ((.inr (.inl (0, 12, Pd3)))) ((.inr (.inl (0, 12, Pd4)))) (xD 12 Kn) ((.inr (.inl (0, 12, Ps2)))) ((.inr (.inl (0, 12, Ps3)))) ((.inr (.inl (0, 12, Ps4)))) (xD 48 Q) ((.inr (.inl (0, 48, Pi2)))) ((.inr (.inl (0, 48, Pi3)))) ((.inr (.inl (0, 48, Pi4))))) s.heap := hH
  have hl : lv_has ls 4 [(0, .ref a0), (1, .int a1)] := hl
  refine lv_aload_n F.1 F.2.1 dX6_above_0 rfl (lv_at hl 0 rfl) ?_
  refine lv_iload_n F.1 F.2.1 dX6_above_1 rfl (lv_at hl 1 rfl) ?_
  refine tVi (b := a0) (As := [.int a1]) (rest := []) F hK hN hO (c_X6_isReach_1 E rd tp kb Fb1 Fa2 Fb2 Fa3 Fb3 Fa4 Fb4 ks Pd2 Pd3 Pd4 Ps2 Ps3 Ps4 Pi2 Pi3 Pi4 a t D Kn Q a0 a1 ha0 (by omega) (by omega) hD hKn hQ hFb1 hFa2 hFb2 hFa3 hFb3 hFa4 hFb4 hks hPd2 hPd3 hPd4 hPs2 hPs3 hPs4 hPi2 hPi3 hPi4) mv_X6_isReach wd_34_6 ⟨Nat.le_of_ble_eq_true rfl, Nat.le_of_ble_eq_true rfl⟩ ⟨Nat.le_of_ble_eq_true rfl, Nat.le_of_ble_eq_true rfl⟩ hH hS (tRecv hK hH (tyb ha0 (all1 rfl)) clX6) rfl hl.1 (Nat.le_of_ble_eq_true rfl) dX6_above_2 (fun z_1 H locs hq hS => ?_)
  obtain ⟨f_2, f_3, f_4, hH⟩ := hq
  have hH : TH E (tbC (dayD (.inl (0, 18))) (dayD (.inl (0, 18))) (riverD (.inl (a, a)) (.inl Fb1) (.inl (0, 4)) 31 33 35 39 43 47) (riverD (.inl Fa2) (.inl Fb2) (.inl (0, 4)) 32 34 36 40 44 48) (rcD (.inl (t, t)) (.inr [26]) (.inr ks) (.inl kb)) rd tp A14F A14F A4F A4F A14F A14F (riverD (.inl Fa3) (.inl Fb3) (.inl (0, 4)) 3 8 3 41 45 49) (riverD (.inl Fa4) (.inl Fb4) (.inl (0, 4)) 3 8 3 42 46 50) (xD 12 D) ((.inr (.inl (0, 12, Pd2)))) ((.inr (.inl (0, 12, Pd3)))) ((.inr (.inl (0, 12, Pd4)))) (xD 12 Kn) ((.inr (.inl (0, 12, Ps2)))) ((.inr (.inl (0, 12, Ps3)))) ((.inr (.inl (0, 12, Ps4)))) (xD 48 Q) ((.inr (.inl (0, 48, Pi2)))) ((.inr (.inl (0, 48, Pi3)))) ((.inr (.inl (0, 48, Pi4))))) H := hH
  refine z_ne (tgt := 10) F dX6_above_5 (by decide) (fun c_5 => ?_) (fun c_5 => ?_)
  · skip
    have r_6 : 1 ≤ z_1.toInt ∧ z_1.toInt ≤ 1 := by have h9_ := f_2; omega
    have r_7 : 0 ≤ a1.toInt ∧ a1.toInt ≤ 11 := by have h9_ := (i32b a1); omega
    refine lv_iconst (v := 0) F.1 F.2.1 dX6_above_10 (by decide) ?_
    refine topK (a := 0) (by decide) (fun k_9 hk_9 => ?_)
    refine lv_istore_n (lv' := [(2, .int k_9), (0, .ref a0), (1, .int a1)]) F.1 F.2.1 dX6_above_11 rfl hl (by decide) rfl (fun ls hl => ?_)
    refine lv_iconst (v := 0) F.1 F.2.1 dX6_above_12 (by decide) ?_
    refine topK (a := 0) (by decide) (fun k_10 hk_10 => ?_)
    refine lv_istore_n (lv' := [(3, .int k_10), (2, .int k_9), (0, .ref a0), (1, .int a1)]) F.1 F.2.1 dX6_above_13 rfl hl (by decide) rfl (fun ls hl => ?_)
    refine wloop (σ := Int32 × Int32) (fun n9 x9 H locs ls => (12 - x9.2.toInt + 1).toNat < n9 ∧ (0 ≤ x9.2.toInt ∧ x9.2.toInt ≤ 12) ∧ (x9.1 = jAb D a1.toInt (x9.2.toInt).toNat) ∧ (x9.2.toInt ≤ a) ∧ TH E (tbC (dayD (.inl (0, 18))) (dayD (.inl (0, 18))) (riverD (.inl (a, a)) (.inl Fb1) (.inl (0, 4)) 31 33 35 39 43 47) (riverD (.inl Fa2) (.inl Fb2) (.inl (0, 4)) 32 34 36 40 44 48) (rcD (.inl (t, t)) (.inr [26]) (.inr ks) (.inl kb)) rd tp A14F A14F A4F A4F A14F A14F (riverD (.inl Fa3) (.inl Fb3) (.inl (0, 4)) 3 8 3 41 45 49) (riverD (.inl Fa4) (.inl Fb4) (.inl (0, 4)) 3 8 3 42 46 50) (xD 12 D) ((.inr (.inl (0, 12, Pd2)))) ((.inr (.inl (0, 12, Pd3)))) ((.inr (.inl (0, 12, Pd4)))) (xD 12 Kn) ((.inr (.inl (0, 12, Ps2)))) ((.inr (.inl (0, 12, Ps3)))) ((.inr (.inl (0, 12, Ps4)))) (xD 48 Q) ((.inr (.inl (0, 48, Pi2)))) ((.inr (.inl (0, 48, Pi3)))) ((.inr (.inl (0, 48, Pi4))))) H ∧ va_S (eA E s.heap.size) s.heap H locs ∧ lv_has ls 4 [(0, .ref a0), (1, .int a1), (2, .int x9.1), (3, .int x9.2)]) ?_ (fun x9 H locs ls h => absurd h.1 (Nat.not_lt_zero _)) _ (k_9, k_10) ⟨Nat.lt_succ_self _, (wkb (eqb hk_10) rfl rfl), (show k_9 = jAb D a1.toInt (k_10.toInt).toNat from (ab_0 (by omega) (by omega))), (show k_10.toInt ≤ a from by omega), hH, hS, lv_sub hl [2, 3, 1, 0] rfl⟩
    intro n_14 ih_14 ⟨u_11, u_12⟩ H locs ls ⟨hm_14, hu_12, hcr14_0, hcr14_1, hH, hS, hl⟩
    have hm_14 : (12 - u_12.toInt + 1).toNat < n_14 + 1 := hm_14
    have hu_12 : (0 ≤ u_12.toInt ∧ u_12.toInt ≤ 12) := hu_12
    have hcr14_0 : (u_11 = jAb D a1.toInt (u_12.toInt).toNat) := hcr14_0
    have hcr14_1 : (u_12.toInt ≤ a) := hcr14_1
    have hH : TH E (tbC (dayD (.inl (0, 18))) (dayD (.inl (0, 18))) (riverD (.inl (a, a)) (.inl Fb1) (.inl (0, 4)) 31 33 35 39 43 47) (riverD (.inl Fa2) (.inl Fb2) (.inl (0, 4)) 32 34 36 40 44 48) (rcD (.inl (t, t)) (.inr [26]) (.inr ks) (.inl kb)) rd tp A14F A14F A4F A4F A14F A14F (riverD (.inl Fa3) (.inl Fb3) (.inl (0, 4)) 3 8 3 41 45 49) (riverD (.inl Fa4) (.inl Fb4) (.inl (0, 4)) 3 8 3 42 46 50) (xD 12 D) ((.inr (.inl (0, 12, Pd2)))) ((.inr (.inl (0, 12, Pd3)))) ((.inr (.inl (0, 12, Pd4)))) (xD 12 Kn) ((.inr (.inl (0, 12, Ps2)))) ((.inr (.inl (0, 12, Ps3)))) ((.inr (.inl (0, 12, Ps4)))) (xD 48 Q) ((.inr (.inl (0, 48, Pi2)))) ((.inr (.inl (0, 48, Pi3)))) ((.inr (.inl (0, 48, Pi4))))) H := hH
    have hl : lv_has ls 4 [(0, .ref a0), (1, .int a1), (2, .int u_11), (3, .int u_12)] := hl
    refine lv_iload_n F.1 F.2.1 dX6_above_14 rfl (lv_at hl 3 rfl) ?_
    refine lv_aload_n F.1 F.2.1 dX6_above_15 rfl (lv_at hl 0 rfl) ?_
    refine tGetR (j := 2) F hK hH (tyb ha0 (all1 rfl)) rfl (all1 rfl) clX6 (by decide) wd_1_17 dX6_above_16 (fun q_13 hq_13 _ => ?_)
    refine tGetI (j := 0) F hK hH (tyb hq_13 (all1 rfl)) rfl clX2 (by decide) wd_34_10 dX6_above_19 (fun z_14 hz_14 => ?_)
    have ez_14 : 0 ≤ z_14.toInt ∧ z_14.toInt ≤ 12 := by omega
    refine b_ge (tgt := 49) F dX6_above_22 (by decide) (fun c_15 => ?_) (fun c_15 => ?_)
    · skip
      refine lv_iload_n F.1 F.2.1 dX6_above_49 rfl (lv_at hl 2 rfl) ?_
      exact txI F hS dX6_above_50 rfl (⟨(i32b _), (abv_y hcr14_0 (by omega) (by omega)), hH⟩)
    · skip
      have r_16 : 0 ≤ u_12.toInt ∧ u_12.toInt ≤ 11 := by have h9_ := hu_12; omega
      have r_17 : 1 ≤ z_14.toInt ∧ z_14.toInt ≤ 12 := by have h9_ := ez_14; omega
      refine lv_aload_n F.1 F.2.1 dX6_above_25 rfl (lv_at hl 0 rfl) ?_
      refine tGetR (j := 2) F hK hH (tyb ha0 (all1 rfl)) rfl (all1 rfl) clX6 (by decide) wd_1_17 dX6_above_26 (fun q_18 hq_18 _ => ?_)
      refine lv_iload_n F.1 F.2.1 dX6_above_29 rfl (lv_at hl 3 rfl) ?_
      refine lv_iload_n F.1 F.2.1 dX6_above_30 rfl (lv_at hl 1 rfl) ?_
      refine tVi (b := q_18) (As := [.int u_12, .int a1]) (rest := []) F hK hN hO (c_X2_runsTo_1 E (dayD (.inl (0, 18))) (dayD (.inl (0, 18))) (riverD (.inl Fa2) (.inl Fb2) (.inl (0, 4)) 32 34 36 40 44 48) (rcD (.inl (t, t)) (.inr [26]) (.inr ks) (.inl kb)) rd tp A14F A14F A4F A4F A14F A14F (riverD (.inl Fa3) (.inl Fb3) (.inl (0, 4)) 3 8 3 41 45 49) (riverD (.inl Fa4) (.inl Fb4) (.inl (0, 4)) 3 8 3 42 46 50) ((.inr (.inl (0, 12, Pd2)))) ((.inr (.inl (0, 12, Pd3)))) ((.inr (.inl (0, 12, Pd4)))) ((.inr (.inl (0, 12, Ps2)))) ((.inr (.inl (0, 12, Ps3)))) ((.inr (.inl (0, 12, Ps4)))) ((.inr (.inl (0, 48, Pi2)))) ((.inr (.inl (0, 48, Pi3)))) ((.inr (.inl (0, 48, Pi4)))) Fb1 a D Kn Q q_18 u_12 a1 hq_18 r_16 (by omega) hD hKn hQ hFb1) mv_X2_runsTo wd_32_11 ⟨Nat.le_of_ble_eq_true rfl, Nat.le_of_ble_eq_true rfl⟩ ⟨Nat.le_of_ble_eq_true rfl, Nat.le_of_ble_eq_true rfl⟩ hH hS (tRecv hK hH (tyb hq_18 (all1 rfl)) clX2) rfl hl.1 (Nat.le_of_ble_eq_true rfl) dX6_above_31 (fun z_19 H locs hq hS => ?_)
      obtain ⟨f_20, f_21, hH⟩ := hq
      have hH : TH E (tbC (dayD (.inl (0, 18))) (dayD (.inl (0, 18))) (riverD (.inl (a, a)) (.inl Fb1) (.inl (0, 4)) 31 33 35 39 43 47) (riverD (.inl Fa2) (.inl Fb2) (.inl (0, 4)) 32 34 36 40 44 48) (rcD (.inl (t, t)) (.inr [26]) (.inr ks) (.inl kb)) rd tp A14F A14F A4F A4F A14F A14F (riverD (.inl Fa3) (.inl Fb3) (.inl (0, 4)) 3 8 3 41 45 49) (riverD (.inl Fa4) (.inl Fb4) (.inl (0, 4)) 3 8 3 42 46 50) (xD 12 D) ((.inr (.inl (0, 12, Pd2)))) ((.inr (.inl (0, 12, Pd3)))) ((.inr (.inl (0, 12, Pd4)))) (xD 12 Kn) ((.inr (.inl (0, 12, Ps2)))) ((.inr (.inl (0, 12, Ps3)))) ((.inr (.inl (0, 12, Ps4)))) (xD 48 Q) ((.inr (.inl (0, 48, Pi2)))) ((.inr (.inl (0, 48, Pi3)))) ((.inr (.inl (0, 48, Pi4))))) H := hH
      refine z_eq (tgt := 43) F dX6_above_34 (by decide) (fun c_22 => ?_) (fun c_22 => ?_)
      · skip
        have r_23 : 0 ≤ z_19.toInt ∧ z_19.toInt ≤ 0 := by have h9_ := f_20; omega
        obtain ⟨x_25, ex_25, hx_25⟩ := iincB (c := 1) (lo := 1) (hi := 12) r_16 rfl
        refine lv_iinc (v := x_25) (lv' := [(3, .int x_25), (0, .ref a0), (1, .int a1), (2, .int u_11)]) F.1 F.2.1 dX6_above_43 hl (k := 3) rfl ex_25 (by decide) rfl (fun ls hl => ?_)
        refine lv_goto (tgt := 14) F.1 F.2.1 dX6_above_46 (by decide) ?_
        exact ih_14 (u_11, x_25) _ _ _ ⟨(show (12 - x_25.toInt + 1).toNat < n_14 from by omega), (wkb hx_25.2 rfl rfl), (show u_11 = jAb D a1.toInt (x_25.toInt).toNat from (ab_n hcr14_0 (by omega) f_21 (by omega) rfl (by omega))), (show x_25.toInt ≤ a from by omega), hH, hS, lv_sub hl [1, 2, 3, 0] rfl⟩
      · skip
        have r_24 : 1 ≤ z_19.toInt ∧ z_19.toInt ≤ 1 := by have h9_ := f_20; omega
        refine lv_iload_n F.1 F.2.1 dX6_above_37 rfl (lv_at hl 2 rfl) ?_
        refine lv_iconst (v := 1) F.1 F.2.1 dX6_above_38 (by decide) ?_
        refine topK (a := 1) (by decide) (fun k_26 hk_26 => ?_)
        refine lv_iload_n F.1 F.2.1 dX6_above_39 rfl (lv_at hl 3 rfl) ?_
        refine lv_ishl F.1 F.2.1 dX6_above_40 ?_
        refine topE (fun z_27 xz_27 => ?_)
        refine lv_ior F.1 F.2.1 dX6_above_41 ?_
        refine topE (fun z_28 xz_28 => ?_)
        refine lv_istore_n (lv' := [(2, .int z_28), (0, .ref a0), (1, .int a1), (3, .int u_12)]) F.1 F.2.1 dX6_above_42 rfl hl (by decide) rfl (fun ls hl => ?_)
        obtain ⟨x_29, ex_29, hx_29⟩ := iincB (c := 1) (lo := 1) (hi := 12) r_16 rfl
        refine lv_iinc (v := x_29) (lv' := [(3, .int x_29), (2, .int z_28), (0, .ref a0), (1, .int a1)]) F.1 F.2.1 dX6_above_43 hl (k := 3) rfl ex_29 (by decide) rfl (fun ls hl => ?_)
        refine lv_goto (tgt := 14) F.1 F.2.1 dX6_above_46 (by decide) ?_
        exact ih_14 (z_28, x_29) _ _ _ ⟨(show (12 - x_29.toInt + 1).toNat < n_14 from by omega), (wkb hx_29.2 rfl rfl), (show z_28 = jAb D a1.toInt (x_29.toInt).toNat from (ab_y hcr14_0 (by omega) f_21 (by omega) (by omega) (by omega) xz_27 xz_28 (by omega))), (show x_29.toInt ≤ a from by omega), hH, hS, lv_sub hl [2, 3, 1, 0] rfl⟩
  · skip
    have r_8 : 0 ≤ z_1.toInt ∧ z_1.toInt ≤ 0 := by have h9_ := f_2; omega
    refine lv_iconst (v := (-1)) F.1 F.2.1 dX6_above_8 (by decide) ?_
    refine topK (a := (-1)) (by decide) (fun k_30 hk_30 => ?_)
    exact txI F hS dX6_above_9 rfl (⟨(wkb (eqb hk_30) rfl rfl), (abv_n (by omega) (by omega)), hH⟩)
set_option maxHeartbeats 4000000 in
set_option maxRecDepth 100000 in
theorem c_X6_above_2 (E : Ev) (rd : TD) (tp : TD) (kb : Int × Int) (Fa1 : Int × Int) (Fb1 : Int × Int) (Fb2 : Int × Int) (Fa3 : Int × Int) (Fb3 : Int × Int) (Fa4 : Int × Int) (Fb4 : Int × Int) (ks : List Nat) (Pd1 : (Nat → Int32) → Prop) (Pd3 : (Nat → Int32) → Prop) (Pd4 : (Nat → Int32) → Prop) (Ps1 : (Nat → Int32) → Prop) (Ps3 : (Nat → Int32) → Prop) (Ps4 : (Nat → Int32) → Prop) (Pi1 : (Nat → Int32) → Prop) (Pi3 : (Nat → Int32) → Prop) (Pi4 : (Nat → Int32) → Prop) (a : Int) (t : Int) (D : Nat → Int32) (Kn : Nat → Int32) (Q : Nat → Int32) (a0 : Nat) (a1 : Int32) (ha0 : eT E a0 ∈ [28]) (ha : 0 ≤ a ∧ a ≤ 12) (ht : 0 ≤ t ∧ t ≤ 400) (hD : ivP 12 (-2) 11 D) (hKn : ivP 12 (-2147483648) 2147483647 Kn) (hQ : ivP 48 (-2147483648) 2147483647 Q) (hFa1 : 0 ≤ Fa1.1 ∧ Fa1.2 ≤ 12) (hFb1 : 0 ≤ Fb1.1 ∧ Fb1.2 ≤ 14) (hFb2 : 0 ≤ Fb2.1 ∧ Fb2.2 ≤ 14) (hFa3 : 0 ≤ Fa3.1 ∧ Fa3.2 ≤ 12) (hFb3 : 0 ≤ Fb3.1 ∧ Fb3.2 ≤ 14) (hFa4 : 0 ≤ Fa4.1 ∧ Fa4.2 ≤ 12) (hFb4 : 0 ≤ Fb4.1 ∧ Fb4.2 ≤ 14) (hks : ∀ t ∈ ks, t ∈ [26, 27]) (hPd1 : ∀ f, Pd1 f → ivP 12 (-2) 11 f) (hPd3 : ∀ f, Pd3 f → ivP 12 (-2) 11 f) (hPd4 : ∀ f, Pd4 f → ivP 12 (-2) 11 f) (hPs1 : ∀ f, Ps1 f → ivP 12 (-2147483648) 2147483647 f) (hPs3 : ∀ f, Ps3 f → ivP 12 (-2147483648) 2147483647 f) (hPs4 : ∀ f, Ps4 f → ivP 12 (-2147483648) 2147483647 f) (hPi1 : ∀ f, Pi1 f → ivP 48 (-2147483648) 2147483647 f) (hPi3 : ∀ f, Pi3 f → ivP 48 (-2147483648) 2147483647 f) (hPi4 : ∀ f, Pi4 f → ivP 48 (-2147483648) 2147483647 f) : TcI E yX6_above cX6_above 4 .int ({ frames := 2, cells := 0, slots := 0, locals := 64 }) [.ref a0, .int a1] (fun H => TH E (tbC (dayD (.inl (0, 18))) (dayD (.inl (0, 18))) (riverD (.inl Fa1) (.inl Fb1) (.inl (0, 4)) 31 33 35 39 43 47) (riverD (.inl (a, a)) (.inl Fb2) (.inl (0, 4)) 32 34 36 40 44 48) (rcD (.inl (t, t)) (.inr [27]) (.inr ks) (.inl kb)) rd tp A14F A14F A4F A4F A14F A14F (riverD (.inl Fa3) (.inl Fb3) (.inl (0, 4)) 3 8 3 41 45 49) (riverD (.inl Fa4) (.inl Fb4) (.inl (0, 4)) 3 8 3 42 46 50) ((.inr (.inl (0, 12, Pd1)))) (xD 12 D) ((.inr (.inl (0, 12, Pd3)))) ((.inr (.inl (0, 12, Pd4)))) ((.inr (.inl (0, 12, Ps1)))) (xD 12 Kn) ((.inr (.inl (0, 12, Ps3)))) ((.inr (.inl (0, 12, Ps4)))) ((.inr (.inl (0, 48, Pi1)))) (xD 48 Q) ((.inr (.inl (0, 48, Pi3)))) ((.inr (.inl (0, 48, Pi4))))) H) (fun v H => ((-2147483648) ≤ v.toInt ∧ v.toInt ≤ 2147483647) ∧ (v.toInt = (jAbove a D a1.toInt).toInt) ∧ TH E (tbC (dayD (.inl (0, 18))) (dayD (.inl (0, 18))) (riverD (.inl Fa1) (.inl Fb1) (.inl (0, 4)) 31 33 35 39 43 47) (riverD (.inl (a, a)) (.inl Fb2) (.inl (0, 4)) 32 34 36 40 44 48) (rcD (.inl (t, t)) (.inr [27]) (.inr ks) (.inl kb)) rd tp A14F A14F A4F A4F A14F A14F (riverD (.inl Fa3) (.inl Fb3) (.inl (0, 4)) 3 8 3 41 45 49) (riverD (.inl Fa4) (.inl Fb4) (.inl (0, 4)) 3 8 3 42 46 50) ((.inr (.inl (0, 12, Pd1)))) (xD 12 D) ((.inr (.inl (0, 12, Pd3)))) ((.inr (.inl (0, 12, Pd4)))) ((.inr (.inl (0, 12, Ps1)))) (xD 12 Kn) ((.inr (.inl (0, 12, Ps3)))) ((.inr (.inl (0, 12, Ps4)))) ((.inr (.inl (0, 48, Pi1)))) (xD 48 Q) ((.inr (.inl (0, 48, Pi3)))) ((.inr (.inl (0, 48, Pi4))))) H) := by
  refine teI (by decide) (Nat.le_of_ble_eq_true rfl) ?_
  intro p_ ev_ s mi_ below_ meth cd_ ls F hK hN hO hH hS hl
  have hH : TH E (tbC (dayD (.inl (0, 18))) (dayD (.inl (0, 18))) (riverD (.inl Fa1) (.inl Fb1) (.inl (0, 4)) 31 33 35 39 43 47) (riverD (.inl (a, a)) (.inl Fb2) (.inl (0, 4)) 32 34 36 40 44 48) (rcD (.inl (t, t)) (.inr [27]) (.inr ks) (.inl kb)) rd tp A14F A14F A4F A4F A14F A14F (riverD (.inl Fa3) (.inl Fb3) (.inl (0, 4)) 3 8 3 41 45 49) (riverD (.inl Fa4) (.inl Fb4) (.inl (0, 4)) 3 8 3 42 46 50) ((.inr (.inl (0, 12, Pd1)))) (xD 12 D) ((.inr (.inl (0, 12, Pd3)))) ((.inr (.inl (0, 12, Pd4)))) ((.inr (.inl (0, 12, Ps1)))) (xD 12 Kn) ((.inr (.inl (0, 12, Ps3)))) ((.inr (.inl (0, 12, Ps4)))) ((.inr (.inl (0, 48, Pi1)))) (xD 48 Q) ((.inr (.inl (0, 48, Pi3)))) ((.inr (.inl (0, 48, Pi4))))) s.heap := hH
  have hl : lv_has ls 4 [(0, .ref a0), (1, .int a1)] := hl
  refine lv_aload_n F.1 F.2.1 dX6_above_0 rfl (lv_at hl 0 rfl) ?_
  refine lv_iload_n F.1 F.2.1 dX6_above_1 rfl (lv_at hl 1 rfl) ?_
  refine tVi (b := a0) (As := [.int a1]) (rest := []) F hK hN hO (c_X6_isReach_2 E rd tp kb Fa1 Fb1 Fb2 Fa3 Fb3 Fa4 Fb4 ks Pd1 Pd3 Pd4 Ps1 Ps3 Ps4 Pi1 Pi3 Pi4 a t D Kn Q a0 a1 ha0 (by omega) (by omega) hD hKn hQ hFa1 hFb1 hFb2 hFa3 hFb3 hFa4 hFb4 hks hPd1 hPd3 hPd4 hPs1 hPs3 hPs4 hPi1 hPi3 hPi4) mv_X6_isReach wd_34_6 ⟨Nat.le_of_ble_eq_true rfl, Nat.le_of_ble_eq_true rfl⟩ ⟨Nat.le_of_ble_eq_true rfl, Nat.le_of_ble_eq_true rfl⟩ hH hS (tRecv hK hH (tyb ha0 (all1 rfl)) clX6) rfl hl.1 (Nat.le_of_ble_eq_true rfl) dX6_above_2 (fun z_1 H locs hq hS => ?_)
  obtain ⟨f_2, f_3, f_4, hH⟩ := hq
  have hH : TH E (tbC (dayD (.inl (0, 18))) (dayD (.inl (0, 18))) (riverD (.inl Fa1) (.inl Fb1) (.inl (0, 4)) 31 33 35 39 43 47) (riverD (.inl (a, a)) (.inl Fb2) (.inl (0, 4)) 32 34 36 40 44 48) (rcD (.inl (t, t)) (.inr [27]) (.inr ks) (.inl kb)) rd tp A14F A14F A4F A4F A14F A14F (riverD (.inl Fa3) (.inl Fb3) (.inl (0, 4)) 3 8 3 41 45 49) (riverD (.inl Fa4) (.inl Fb4) (.inl (0, 4)) 3 8 3 42 46 50) ((.inr (.inl (0, 12, Pd1)))) (xD 12 D) ((.inr (.inl (0, 12, Pd3)))) ((.inr (.inl (0, 12, Pd4)))) ((.inr (.inl (0, 12, Ps1)))) (xD 12 Kn) ((.inr (.inl (0, 12, Ps3)))) ((.inr (.inl (0, 12, Ps4)))) ((.inr (.inl (0, 48, Pi1)))) (xD 48 Q) ((.inr (.inl (0, 48, Pi3)))) ((.inr (.inl (0, 48, Pi4))))) H := hH
  refine z_ne (tgt := 10) F dX6_above_5 (by decide) (fun c_5 => ?_) (fun c_5 => ?_)
  · skip
    have r_6 : 1 ≤ z_1.toInt ∧ z_1.toInt ≤ 1 := by have h9_ := f_2; omega
    have r_7 : 0 ≤ a1.toInt ∧ a1.toInt ≤ 11 := by have h9_ := (i32b a1); omega
    refine lv_iconst (v := 0) F.1 F.2.1 dX6_above_10 (by decide) ?_
    refine topK (a := 0) (by decide) (fun k_9 hk_9 => ?_)
    refine lv_istore_n (lv' := [(2, .int k_9), (0, .ref a0), (1, .int a1)]) F.1 F.2.1 dX6_above_11 rfl hl (by decide) rfl (fun ls hl => ?_)
    refine lv_iconst (v := 0) F.1 F.2.1 dX6_above_12 (by decide) ?_
    refine topK (a := 0) (by decide) (fun k_10 hk_10 => ?_)
    refine lv_istore_n (lv' := [(3, .int k_10), (2, .int k_9), (0, .ref a0), (1, .int a1)]) F.1 F.2.1 dX6_above_13 rfl hl (by decide) rfl (fun ls hl => ?_)
    refine wloop (σ := Int32 × Int32) (fun n9 x9 H locs ls => (12 - x9.2.toInt + 1).toNat < n9 ∧ (0 ≤ x9.2.toInt ∧ x9.2.toInt ≤ 12) ∧ (x9.1 = jAb D a1.toInt (x9.2.toInt).toNat) ∧ (x9.2.toInt ≤ a) ∧ TH E (tbC (dayD (.inl (0, 18))) (dayD (.inl (0, 18))) (riverD (.inl Fa1) (.inl Fb1) (.inl (0, 4)) 31 33 35 39 43 47) (riverD (.inl (a, a)) (.inl Fb2) (.inl (0, 4)) 32 34 36 40 44 48) (rcD (.inl (t, t)) (.inr [27]) (.inr ks) (.inl kb)) rd tp A14F A14F A4F A4F A14F A14F (riverD (.inl Fa3) (.inl Fb3) (.inl (0, 4)) 3 8 3 41 45 49) (riverD (.inl Fa4) (.inl Fb4) (.inl (0, 4)) 3 8 3 42 46 50) ((.inr (.inl (0, 12, Pd1)))) (xD 12 D) ((.inr (.inl (0, 12, Pd3)))) ((.inr (.inl (0, 12, Pd4)))) ((.inr (.inl (0, 12, Ps1)))) (xD 12 Kn) ((.inr (.inl (0, 12, Ps3)))) ((.inr (.inl (0, 12, Ps4)))) ((.inr (.inl (0, 48, Pi1)))) (xD 48 Q) ((.inr (.inl (0, 48, Pi3)))) ((.inr (.inl (0, 48, Pi4))))) H ∧ va_S (eA E s.heap.size) s.heap H locs ∧ lv_has ls 4 [(0, .ref a0), (1, .int a1), (2, .int x9.1), (3, .int x9.2)]) ?_ (fun x9 H locs ls h => absurd h.1 (Nat.not_lt_zero _)) _ (k_9, k_10) ⟨Nat.lt_succ_self _, (wkb (eqb hk_10) rfl rfl), (show k_9 = jAb D a1.toInt (k_10.toInt).toNat from (ab_0 (by omega) (by omega))), (show k_10.toInt ≤ a from by omega), hH, hS, lv_sub hl [2, 3, 1, 0] rfl⟩
    intro n_14 ih_14 ⟨u_11, u_12⟩ H locs ls ⟨hm_14, hu_12, hcr14_0, hcr14_1, hH, hS, hl⟩
    have hm_14 : (12 - u_12.toInt + 1).toNat < n_14 + 1 := hm_14
    have hu_12 : (0 ≤ u_12.toInt ∧ u_12.toInt ≤ 12) := hu_12
    have hcr14_0 : (u_11 = jAb D a1.toInt (u_12.toInt).toNat) := hcr14_0
    have hcr14_1 : (u_12.toInt ≤ a) := hcr14_1
    have hH : TH E (tbC (dayD (.inl (0, 18))) (dayD (.inl (0, 18))) (riverD (.inl Fa1) (.inl Fb1) (.inl (0, 4)) 31 33 35 39 43 47) (riverD (.inl (a, a)) (.inl Fb2) (.inl (0, 4)) 32 34 36 40 44 48) (rcD (.inl (t, t)) (.inr [27]) (.inr ks) (.inl kb)) rd tp A14F A14F A4F A4F A14F A14F (riverD (.inl Fa3) (.inl Fb3) (.inl (0, 4)) 3 8 3 41 45 49) (riverD (.inl Fa4) (.inl Fb4) (.inl (0, 4)) 3 8 3 42 46 50) ((.inr (.inl (0, 12, Pd1)))) (xD 12 D) ((.inr (.inl (0, 12, Pd3)))) ((.inr (.inl (0, 12, Pd4)))) ((.inr (.inl (0, 12, Ps1)))) (xD 12 Kn) ((.inr (.inl (0, 12, Ps3)))) ((.inr (.inl (0, 12, Ps4)))) ((.inr (.inl (0, 48, Pi1)))) (xD 48 Q) ((.inr (.inl (0, 48, Pi3)))) ((.inr (.inl (0, 48, Pi4))))) H := hH
    have hl : lv_has ls 4 [(0, .ref a0), (1, .int a1), (2, .int u_11), (3, .int u_12)] := hl
    refine lv_iload_n F.1 F.2.1 dX6_above_14 rfl (lv_at hl 3 rfl) ?_
    refine lv_aload_n F.1 F.2.1 dX6_above_15 rfl (lv_at hl 0 rfl) ?_
    refine tGetR (j := 2) F hK hH (tyb ha0 (all1 rfl)) rfl (all1 rfl) clX6 (by decide) wd_1_17 dX6_above_16 (fun q_13 hq_13 _ => ?_)
    refine tGetI (j := 0) F hK hH (tyb hq_13 (all1 rfl)) rfl clX2 (by decide) wd_34_10 dX6_above_19 (fun z_14 hz_14 => ?_)
    have ez_14 : 0 ≤ z_14.toInt ∧ z_14.toInt ≤ 12 := by omega
    refine b_ge (tgt := 49) F dX6_above_22 (by decide) (fun c_15 => ?_) (fun c_15 => ?_)
    · skip
      refine lv_iload_n F.1 F.2.1 dX6_above_49 rfl (lv_at hl 2 rfl) ?_
      exact txI F hS dX6_above_50 rfl (⟨(i32b _), (abv_y hcr14_0 (by omega) (by omega)), hH⟩)
    · skip
      have r_16 : 0 ≤ u_12.toInt ∧ u_12.toInt ≤ 11 := by have h9_ := hu_12; omega
      have r_17 : 1 ≤ z_14.toInt ∧ z_14.toInt ≤ 12 := by have h9_ := ez_14; omega
      refine lv_aload_n F.1 F.2.1 dX6_above_25 rfl (lv_at hl 0 rfl) ?_
      refine tGetR (j := 2) F hK hH (tyb ha0 (all1 rfl)) rfl (all1 rfl) clX6 (by decide) wd_1_17 dX6_above_26 (fun q_18 hq_18 _ => ?_)
      refine lv_iload_n F.1 F.2.1 dX6_above_29 rfl (lv_at hl 3 rfl) ?_
      refine lv_iload_n F.1 F.2.1 dX6_above_30 rfl (lv_at hl 1 rfl) ?_
      refine tVi (b := q_18) (As := [.int u_12, .int a1]) (rest := []) F hK hN hO (c_X2_runsTo_2 E (dayD (.inl (0, 18))) (dayD (.inl (0, 18))) (riverD (.inl Fa1) (.inl Fb1) (.inl (0, 4)) 31 33 35 39 43 47) (rcD (.inl (t, t)) (.inr [27]) (.inr ks) (.inl kb)) rd tp A14F A14F A4F A4F A14F A14F (riverD (.inl Fa3) (.inl Fb3) (.inl (0, 4)) 3 8 3 41 45 49) (riverD (.inl Fa4) (.inl Fb4) (.inl (0, 4)) 3 8 3 42 46 50) ((.inr (.inl (0, 12, Pd1)))) ((.inr (.inl (0, 12, Pd3)))) ((.inr (.inl (0, 12, Pd4)))) ((.inr (.inl (0, 12, Ps1)))) ((.inr (.inl (0, 12, Ps3)))) ((.inr (.inl (0, 12, Ps4)))) ((.inr (.inl (0, 48, Pi1)))) ((.inr (.inl (0, 48, Pi3)))) ((.inr (.inl (0, 48, Pi4)))) Fb2 a D Kn Q q_18 u_12 a1 hq_18 r_16 (by omega) hD hKn hQ hFb2) mv_X2_runsTo wd_32_11 ⟨Nat.le_of_ble_eq_true rfl, Nat.le_of_ble_eq_true rfl⟩ ⟨Nat.le_of_ble_eq_true rfl, Nat.le_of_ble_eq_true rfl⟩ hH hS (tRecv hK hH (tyb hq_18 (all1 rfl)) clX2) rfl hl.1 (Nat.le_of_ble_eq_true rfl) dX6_above_31 (fun z_19 H locs hq hS => ?_)
      obtain ⟨f_20, f_21, hH⟩ := hq
      have hH : TH E (tbC (dayD (.inl (0, 18))) (dayD (.inl (0, 18))) (riverD (.inl Fa1) (.inl Fb1) (.inl (0, 4)) 31 33 35 39 43 47) (riverD (.inl (a, a)) (.inl Fb2) (.inl (0, 4)) 32 34 36 40 44 48) (rcD (.inl (t, t)) (.inr [27]) (.inr ks) (.inl kb)) rd tp A14F A14F A4F A4F A14F A14F (riverD (.inl Fa3) (.inl Fb3) (.inl (0, 4)) 3 8 3 41 45 49) (riverD (.inl Fa4) (.inl Fb4) (.inl (0, 4)) 3 8 3 42 46 50) ((.inr (.inl (0, 12, Pd1)))) (xD 12 D) ((.inr (.inl (0, 12, Pd3)))) ((.inr (.inl (0, 12, Pd4)))) ((.inr (.inl (0, 12, Ps1)))) (xD 12 Kn) ((.inr (.inl (0, 12, Ps3)))) ((.inr (.inl (0, 12, Ps4)))) ((.inr (.inl (0, 48, Pi1)))) (xD 48 Q) ((.inr (.inl (0, 48, Pi3)))) ((.inr (.inl (0, 48, Pi4))))) H := hH
      refine z_eq (tgt := 43) F dX6_above_34 (by decide) (fun c_22 => ?_) (fun c_22 => ?_)
      · skip
        have r_23 : 0 ≤ z_19.toInt ∧ z_19.toInt ≤ 0 := by have h9_ := f_20; omega
        obtain ⟨x_25, ex_25, hx_25⟩ := iincB (c := 1) (lo := 1) (hi := 12) r_16 rfl
        refine lv_iinc (v := x_25) (lv' := [(3, .int x_25), (0, .ref a0), (1, .int a1), (2, .int u_11)]) F.1 F.2.1 dX6_above_43 hl (k := 3) rfl ex_25 (by decide) rfl (fun ls hl => ?_)
        refine lv_goto (tgt := 14) F.1 F.2.1 dX6_above_46 (by decide) ?_
        exact ih_14 (u_11, x_25) _ _ _ ⟨(show (12 - x_25.toInt + 1).toNat < n_14 from by omega), (wkb hx_25.2 rfl rfl), (show u_11 = jAb D a1.toInt (x_25.toInt).toNat from (ab_n hcr14_0 (by omega) f_21 (by omega) rfl (by omega))), (show x_25.toInt ≤ a from by omega), hH, hS, lv_sub hl [1, 2, 3, 0] rfl⟩
      · skip
        have r_24 : 1 ≤ z_19.toInt ∧ z_19.toInt ≤ 1 := by have h9_ := f_20; omega
        refine lv_iload_n F.1 F.2.1 dX6_above_37 rfl (lv_at hl 2 rfl) ?_
        refine lv_iconst (v := 1) F.1 F.2.1 dX6_above_38 (by decide) ?_
        refine topK (a := 1) (by decide) (fun k_26 hk_26 => ?_)
        refine lv_iload_n F.1 F.2.1 dX6_above_39 rfl (lv_at hl 3 rfl) ?_
        refine lv_ishl F.1 F.2.1 dX6_above_40 ?_
        refine topE (fun z_27 xz_27 => ?_)
        refine lv_ior F.1 F.2.1 dX6_above_41 ?_
        refine topE (fun z_28 xz_28 => ?_)
        refine lv_istore_n (lv' := [(2, .int z_28), (0, .ref a0), (1, .int a1), (3, .int u_12)]) F.1 F.2.1 dX6_above_42 rfl hl (by decide) rfl (fun ls hl => ?_)
        obtain ⟨x_29, ex_29, hx_29⟩ := iincB (c := 1) (lo := 1) (hi := 12) r_16 rfl
        refine lv_iinc (v := x_29) (lv' := [(3, .int x_29), (2, .int z_28), (0, .ref a0), (1, .int a1)]) F.1 F.2.1 dX6_above_43 hl (k := 3) rfl ex_29 (by decide) rfl (fun ls hl => ?_)
        refine lv_goto (tgt := 14) F.1 F.2.1 dX6_above_46 (by decide) ?_
        exact ih_14 (z_28, x_29) _ _ _ ⟨(show (12 - x_29.toInt + 1).toNat < n_14 from by omega), (wkb hx_29.2 rfl rfl), (show z_28 = jAb D a1.toInt (x_29.toInt).toNat from (ab_y hcr14_0 (by omega) f_21 (by omega) (by omega) (by omega) xz_27 xz_28 (by omega))), (show x_29.toInt ≤ a from by omega), hH, hS, lv_sub hl [2, 3, 1, 0] rfl⟩
  · skip
    have r_8 : 0 ≤ z_1.toInt ∧ z_1.toInt ≤ 0 := by have h9_ := f_2; omega
    refine lv_iconst (v := (-1)) F.1 F.2.1 dX6_above_8 (by decide) ?_
    refine topK (a := (-1)) (by decide) (fun k_30 hk_30 => ?_)
    exact txI F hS dX6_above_9 rfl (⟨(wkb (eqb hk_30) rfl rfl), (abv_n (by omega) (by omega)), hH⟩)
