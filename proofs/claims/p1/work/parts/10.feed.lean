theorem dX6_putNumber_0 : decode cX6_putNumber 0 = .ok (.bipush 24, 2) := by decide +kernel
theorem dX6_putNumber_2 : decode cX6_putNumber 2 = .ok (.istore_n 2, 1) := by decide +kernel
theorem dX6_putNumber_3 : decode cX6_putNumber 3 = .ok (.iload_n 2, 1) := by decide +kernel
theorem dX6_putNumber_4 : decode cX6_putNumber 4 = .ok (.ifCond .lt 42, 3) := by decide +kernel
theorem dX6_putNumber_7 : decode cX6_putNumber 7 = .ok (.aload_n 0, 1) := by decide +kernel
theorem dX6_putNumber_8 : decode cX6_putNumber 8 = .ok (.getfield 77, 3) := by decide +kernel
theorem dX6_putNumber_11 : decode cX6_putNumber 11 = .ok (.sipush 400, 3) := by decide +kernel
theorem dX6_putNumber_14 : decode cX6_putNumber 14 = .ok (.if_icmp .ge 26, 3) := by decide +kernel
theorem dX6_putNumber_17 : decode cX6_putNumber 17 = .ok (.aload_n 0, 1) := by decide +kernel
theorem dX6_putNumber_18 : decode cX6_putNumber 18 = .ok (.getfield 9, 3) := by decide +kernel
theorem dX6_putNumber_21 : decode cX6_putNumber 21 = .ok (.aload_n 0, 1) := by decide +kernel
theorem dX6_putNumber_22 : decode cX6_putNumber 22 = .ok (.getfield 77, 3) := by decide +kernel
theorem dX6_putNumber_25 : decode cX6_putNumber 25 = .ok (.iload_n 1, 1) := by decide +kernel
theorem dX6_putNumber_26 : decode cX6_putNumber 26 = .ok (.iload_n 2, 1) := by decide +kernel
theorem dX6_putNumber_27 : decode cX6_putNumber 27 = .ok (.iushr, 1) := by decide +kernel
theorem dX6_putNumber_28 : decode cX6_putNumber 28 = .ok (.i2b, 1) := by decide +kernel
theorem dX6_putNumber_29 : decode cX6_putNumber 29 = .ok (.bastore, 1) := by decide +kernel
theorem dX6_putNumber_30 : decode cX6_putNumber 30 = .ok (.aload_n 0, 1) := by decide +kernel
theorem dX6_putNumber_31 : decode cX6_putNumber 31 = .ok (.dup, 1) := by decide +kernel
theorem dX6_putNumber_32 : decode cX6_putNumber 32 = .ok (.getfield 77, 3) := by decide +kernel
theorem dX6_putNumber_35 : decode cX6_putNumber 35 = .ok (.iconst 1, 1) := by decide +kernel
theorem dX6_putNumber_36 : decode cX6_putNumber 36 = .ok (.iadd, 1) := by decide +kernel
theorem dX6_putNumber_37 : decode cX6_putNumber 37 = .ok (.putfield 77, 3) := by decide +kernel
theorem dX6_putNumber_40 : decode cX6_putNumber 40 = .ok (.iinc 2 (-8), 3) := by decide +kernel
theorem dX6_putNumber_43 : decode cX6_putNumber 43 = .ok (.goto (-40), 3) := by decide +kernel
theorem dX6_putNumber_46 : decode cX6_putNumber 46 = .ok (.return_, 1) := by decide +kernel
theorem dX6_feed_0 : decode cX6_feed 0 = .ok (.aload_n 0, 1) := by decide +kernel
theorem dX6_feed_1 : decode cX6_feed 1 = .ok (.getfield 77, 3) := by decide +kernel
theorem dX6_feed_4 : decode cX6_feed 4 = .ok (.bipush 20, 2) := by decide +kernel
theorem dX6_feed_6 : decode cX6_feed 6 = .ok (.iadd, 1) := by decide +kernel
theorem dX6_feed_7 : decode cX6_feed 7 = .ok (.sipush 400, 3) := by decide +kernel
theorem dX6_feed_10 : decode cX6_feed 10 = .ok (.if_icmp .le 5, 3) := by decide +kernel
theorem dX6_feed_13 : decode cX6_feed 13 = .ok (.iconst (-1), 1) := by decide +kernel
theorem dX6_feed_14 : decode cX6_feed 14 = .ok (.ireturn, 1) := by decide +kernel
theorem dX6_feed_15 : decode cX6_feed 15 = .ok (.aload_n 0, 1) := by decide +kernel
theorem dX6_feed_16 : decode cX6_feed 16 = .ok (.iload_n 1, 1) := by decide +kernel
theorem dX6_feed_17 : decode cX6_feed 17 = .ok (.invokevirtual 81, 3) := by decide +kernel
theorem dX6_feed_20 : decode cX6_feed 20 = .ok (.aload_n 0, 1) := by decide +kernel
theorem dX6_feed_21 : decode cX6_feed 21 = .ok (.iload_n 2, 1) := by decide +kernel
theorem dX6_feed_22 : decode cX6_feed 22 = .ok (.invokevirtual 81, 3) := by decide +kernel
theorem dX6_feed_25 : decode cX6_feed 25 = .ok (.aload_n 0, 1) := by decide +kernel
theorem dX6_feed_26 : decode cX6_feed 26 = .ok (.iload_n 3, 1) := by decide +kernel
theorem dX6_feed_27 : decode cX6_feed 27 = .ok (.invokevirtual 81, 3) := by decide +kernel
theorem dX6_feed_30 : decode cX6_feed 30 = .ok (.aload_n 0, 1) := by decide +kernel
theorem dX6_feed_31 : decode cX6_feed 31 = .ok (.iload 4, 2) := by decide +kernel
theorem dX6_feed_33 : decode cX6_feed 33 = .ok (.invokevirtual 81, 3) := by decide +kernel
theorem dX6_feed_36 : decode cX6_feed 36 = .ok (.aload_n 0, 1) := by decide +kernel
theorem dX6_feed_37 : decode cX6_feed 37 = .ok (.iload 5, 2) := by decide +kernel
theorem dX6_feed_39 : decode cX6_feed 39 = .ok (.invokevirtual 81, 3) := by decide +kernel
theorem dX6_feed_42 : decode cX6_feed 42 = .ok (.aload_n 0, 1) := by decide +kernel
theorem dX6_feed_43 : decode cX6_feed 43 = .ok (.getfield 77, 3) := by decide +kernel
theorem dX6_feed_46 : decode cX6_feed 46 = .ok (.ireturn, 1) := by decide +kernel
theorem mv_X6_putNumber : MV yX6_putNumber cX6_putNumber 3 none 1 := ⟨wd_7_16, wd_7_14, wd_7_15, wd_1_2, by decide, by decide, by decide +kernel⟩
set_option maxHeartbeats 4000000 in
set_option maxRecDepth 100000 in
theorem c_X6_putNumber_0 (l : Launch) (G : va_G) (k : Nat → ClassId) (h0 : Nat) (o_tape : Nat) (o_river : Nat) (o_spare : Nat) (o_state : Nat) (o_past : Nat) (o_shelfRivers : Nat) (o_shelfStates : Nat) (o_today : Nat) (o_outlook : Nat) (o_reader : Nat) (o_writer : Nat) (o_unchanged : Nat) (o_nextPast : Int32) (o_acts : Int32) (o_kept : Int32) (f : Nat → Int32) (a : Int32) : CtV l G k yX6_putNumber cX6_putNumber 3 ({ frames := 1, cells := 0, slots := 0, locals := 40 }) [.ref h0, .int a] [(h0, .inr (6, [.ref o_tape, .int 0, .ref o_river, .ref o_spare, .ref o_state, .ref o_past, .int o_nextPast, .int o_acts, .ref o_shelfRivers, .ref o_shelfStates, .int o_kept, .ref o_today, .ref o_outlook, .ref o_reader, .ref o_writer, .ref o_unchanged])), (o_tape, .inl (k 1, 400, .inl f))] (fun w => ∃ g : Nat → Int32, w = [(h0, .inr (6, [.ref o_tape, .int 4, .ref o_river, .ref o_spare, .ref o_state, .ref o_past, .int o_nextPast, .int o_acts, .ref o_shelfRivers, .ref o_shelfStates, .int o_kept, .ref o_today, .ref o_outlook, .ref o_reader, .ref o_writer, .ref o_unchanged])), (o_tape, .inl (k 1, 400, .inl g))]) := by
  refine enV (by decide) (Nat.le_of_ble_eq_true rfl) ?_
  intro pg_ ev_ s mi_ below_ meth cd_ ls A F hK hN hA hP hD hS hl
  obtain ⟨hx, hb, hr, hml, hown, hlk, hw, hin⟩ := id F
  have hown : s.vm.findClass RX6 = some mi_.cls := hown
  have hl : lv_has ls 3 [(0, .ref h0), (1, .int a)] := hl
  refine lv_bipush (v := 24) hx hb dX6_putNumber_0 (by decide) ?_
  refine lv_istore_n (lv' := [(2, .int 24), (0, .ref h0), (1, .int a)]) hx hb dX6_putNumber_2 rfl hl (by decide) rfl (fun ls hl => ?_)
  refine lv_iload_n hx hb dX6_putNumber_3 rfl (lv_at hl 0 rfl) ?_
  refine lv_if_lt (tgt := 46) hx hb dX6_putNumber_4 (by decide) (fun c_ => absurd c_ (by decide)) (fun _ => ?_)
  refine lv_aload_n hx hb dX6_putNumber_7 rfl (lv_at hl 1 rfl) ?_
  refine va_get (D := G) (ci := 6) (v := .int 0) (C := RX6) (T := TX6) (N := 16) hx hb hw inlX6 hown hK hP 0 rfl rfl 1 (by decide) (hw _ wd_7_12) (fun _ h9 => h9) rfl dX6_putNumber_8 ?_
  refine lv_sipush (v := 400) hx hb dX6_putNumber_11 (by decide) ?_
  refine lv_icmp_ge (tgt := 40) hx hb dX6_putNumber_14 (by decide) (fun c_ => absurd c_ (by decide)) (fun _ => ?_)
  refine lv_aload_n hx hb dX6_putNumber_17 rfl (lv_at hl 1 rfl) ?_
  refine va_get (D := G) (ci := 6) (v := .ref o_tape) (C := RX6) (T := TX6) (N := 16) hx hb hw inlX6 hown hK hP 0 rfl rfl 0 (by decide) (hw _ wd_1_13) (fun _ h9 => h9) rfl dX6_putNumber_18 ?_
  refine lv_aload_n hx hb dX6_putNumber_21 rfl (lv_at hl 1 rfl) ?_
  refine va_get (D := G) (ci := 6) (v := .int 0) (C := RX6) (T := TX6) (N := 16) hx hb hw inlX6 hown hK hP 0 rfl rfl 1 (by decide) (hw _ wd_7_12) (fun _ h9 => h9) rfl dX6_putNumber_22 ?_
  refine lv_iload_n hx hb dX6_putNumber_25 rfl (lv_at hl 2 rfl) ?_
  refine lv_iload_n hx hb dX6_putNumber_26 rfl (lv_at hl 0 rfl) ?_
  refine lv_iushr hx hb dX6_putNumber_27 rfl ?_
  refine lv_topi (fun z_1 ez_1 => ?_)
  refine lv_i2b hx hb dX6_putNumber_28 rfl ?_
  refine lv_topi (fun z_2 ez_2 => ?_)
  refine stB F hK hP hD hS 1 rfl (vin (by decide)) dX6_putNumber_29 (fun f_3 ef_3 H locs hP hD hS => ?_)
  have hP : va_P G vwCl [(h0, .inr (6, [.ref o_tape, .int 0, .ref o_river, .ref o_spare, .ref o_state, .ref o_past, .int o_nextPast, .int o_acts, .ref o_shelfRivers, .ref o_shelfStates, .int o_kept, .ref o_today, .ref o_outlook, .ref o_reader, .ref o_writer, .ref o_unchanged])), (o_tape, .inl (k 1, 400, .inl f_3))] H := hP
  have hD : va_D A [(h0, .inr (6, [.ref o_tape, .int 0, .ref o_river, .ref o_spare, .ref o_state, .ref o_past, .int o_nextPast, .int o_acts, .ref o_shelfRivers, .ref o_shelfStates, .int o_kept, .ref o_today, .ref o_outlook, .ref o_reader, .ref o_writer, .ref o_unchanged])), (o_tape, .inl (k 1, 400, .inl f_3))] := hD
  refine lv_aload_n hx hb dX6_putNumber_30 rfl (lv_at hl 1 rfl) ?_
  refine lv_dup hx hb dX6_putNumber_31 rfl ?_
  refine va_get (D := G) (ci := 6) (v := .int 0) (C := RX6) (T := TX6) (N := 16) hx hb hw inlX6 hown hK hP 0 rfl rfl 1 (by decide) (hw _ wd_7_12) (fun _ h9 => h9) rfl dX6_putNumber_32 ?_
  refine lv_iconst (v := 1) hx hb dX6_putNumber_35 (by decide) ?_
  refine lv_iadd hx hb dX6_putNumber_36 ?_
  refine topc (v := 1) (by decide) ?_
  refine va_put (D := G) (ci := 6) (v := .int 1) (ty := .int) (C := RX6) (T := TX6) (N := 16) hx hb hw inlX6 tyX6 tyX6_ok nmX6 hown hK hP hD hS 0 rfl rfl 1 (by decide) (hw _ wd_7_12) (fun _ h9 => h9) rfl (tyX6_ok 1 (by decide)) rfl rfl (Nat.le_of_ble_eq_true rfl) dX6_putNumber_37 (fun H locs hP hD hS => ?_)
  have hP : va_P G vwCl [(h0, .inr (6, [.ref o_tape, .int 1, .ref o_river, .ref o_spare, .ref o_state, .ref o_past, .int o_nextPast, .int o_acts, .ref o_shelfRivers, .ref o_shelfStates, .int o_kept, .ref o_today, .ref o_outlook, .ref o_reader, .ref o_writer, .ref o_unchanged])), (o_tape, .inl (k 1, 400, .inl f_3))] H := hP
  have hD : va_D A [(h0, .inr (6, [.ref o_tape, .int 1, .ref o_river, .ref o_spare, .ref o_state, .ref o_past, .int o_nextPast, .int o_acts, .ref o_shelfRivers, .ref o_shelfStates, .int o_kept, .ref o_today, .ref o_outlook, .ref o_reader, .ref o_writer, .ref o_unchanged])), (o_tape, .inl (k 1, 400, .inl f_3))] := hD
  refine lv_iinc (v := 16) (lv' := [(2, .int 16), (0, .ref h0), (1, .int a)]) hx hb dX6_putNumber_40 hl (k := 0) rfl (by decide) (by decide) rfl (fun ls hl => ?_)
  refine lv_goto (tgt := 3) hx hb dX6_putNumber_43 (by decide) ?_
  refine lv_iload_n hx hb dX6_putNumber_3 rfl (lv_at hl 0 rfl) ?_
  refine lv_if_lt (tgt := 46) hx hb dX6_putNumber_4 (by decide) (fun c_ => absurd c_ (by decide)) (fun _ => ?_)
  refine lv_aload_n hx hb dX6_putNumber_7 rfl (lv_at hl 1 rfl) ?_
  refine va_get (D := G) (ci := 6) (v := .int 1) (C := RX6) (T := TX6) (N := 16) hx hb hw inlX6 hown hK hP 0 rfl rfl 1 (by decide) (hw _ wd_7_12) (fun _ h9 => h9) rfl dX6_putNumber_8 ?_
  refine lv_sipush (v := 400) hx hb dX6_putNumber_11 (by decide) ?_
  refine lv_icmp_ge (tgt := 40) hx hb dX6_putNumber_14 (by decide) (fun c_ => absurd c_ (by decide)) (fun _ => ?_)
  refine lv_aload_n hx hb dX6_putNumber_17 rfl (lv_at hl 1 rfl) ?_
  refine va_get (D := G) (ci := 6) (v := .ref o_tape) (C := RX6) (T := TX6) (N := 16) hx hb hw inlX6 hown hK hP 0 rfl rfl 0 (by decide) (hw _ wd_1_13) (fun _ h9 => h9) rfl dX6_putNumber_18 ?_
  refine lv_aload_n hx hb dX6_putNumber_21 rfl (lv_at hl 1 rfl) ?_
  refine va_get (D := G) (ci := 6) (v := .int 1) (C := RX6) (T := TX6) (N := 16) hx hb hw inlX6 hown hK hP 0 rfl rfl 1 (by decide) (hw _ wd_7_12) (fun _ h9 => h9) rfl dX6_putNumber_22 ?_
  refine lv_iload_n hx hb dX6_putNumber_25 rfl (lv_at hl 2 rfl) ?_
  refine lv_iload_n hx hb dX6_putNumber_26 rfl (lv_at hl 0 rfl) ?_
  refine lv_iushr hx hb dX6_putNumber_27 rfl ?_
  refine lv_topi (fun z_4 ez_4 => ?_)
  refine lv_i2b hx hb dX6_putNumber_28 rfl ?_
  refine lv_topi (fun z_5 ez_5 => ?_)
  refine stB F hK hP hD hS 1 rfl (vin (by decide)) dX6_putNumber_29 (fun f_6 ef_6 H locs hP hD hS => ?_)
  have hP : va_P G vwCl [(h0, .inr (6, [.ref o_tape, .int 1, .ref o_river, .ref o_spare, .ref o_state, .ref o_past, .int o_nextPast, .int o_acts, .ref o_shelfRivers, .ref o_shelfStates, .int o_kept, .ref o_today, .ref o_outlook, .ref o_reader, .ref o_writer, .ref o_unchanged])), (o_tape, .inl (k 1, 400, .inl f_6))] H := hP
  have hD : va_D A [(h0, .inr (6, [.ref o_tape, .int 1, .ref o_river, .ref o_spare, .ref o_state, .ref o_past, .int o_nextPast, .int o_acts, .ref o_shelfRivers, .ref o_shelfStates, .int o_kept, .ref o_today, .ref o_outlook, .ref o_reader, .ref o_writer, .ref o_unchanged])), (o_tape, .inl (k 1, 400, .inl f_6))] := hD
  refine lv_aload_n hx hb dX6_putNumber_30 rfl (lv_at hl 1 rfl) ?_
  refine lv_dup hx hb dX6_putNumber_31 rfl ?_
  refine va_get (D := G) (ci := 6) (v := .int 1) (C := RX6) (T := TX6) (N := 16) hx hb hw inlX6 hown hK hP 0 rfl rfl 1 (by decide) (hw _ wd_7_12) (fun _ h9 => h9) rfl dX6_putNumber_32 ?_
  refine lv_iconst (v := 1) hx hb dX6_putNumber_35 (by decide) ?_
  refine lv_iadd hx hb dX6_putNumber_36 ?_
  refine topc (v := 2) (by decide) ?_
  refine va_put (D := G) (ci := 6) (v := .int 2) (ty := .int) (C := RX6) (T := TX6) (N := 16) hx hb hw inlX6 tyX6 tyX6_ok nmX6 hown hK hP hD hS 0 rfl rfl 1 (by decide) (hw _ wd_7_12) (fun _ h9 => h9) rfl (tyX6_ok 1 (by decide)) rfl rfl (Nat.le_of_ble_eq_true rfl) dX6_putNumber_37 (fun H locs hP hD hS => ?_)
  have hP : va_P G vwCl [(h0, .inr (6, [.ref o_tape, .int 2, .ref o_river, .ref o_spare, .ref o_state, .ref o_past, .int o_nextPast, .int o_acts, .ref o_shelfRivers, .ref o_shelfStates, .int o_kept, .ref o_today, .ref o_outlook, .ref o_reader, .ref o_writer, .ref o_unchanged])), (o_tape, .inl (k 1, 400, .inl f_6))] H := hP
  have hD : va_D A [(h0, .inr (6, [.ref o_tape, .int 2, .ref o_river, .ref o_spare, .ref o_state, .ref o_past, .int o_nextPast, .int o_acts, .ref o_shelfRivers, .ref o_shelfStates, .int o_kept, .ref o_today, .ref o_outlook, .ref o_reader, .ref o_writer, .ref o_unchanged])), (o_tape, .inl (k 1, 400, .inl f_6))] := hD
  refine lv_iinc (v := 8) (lv' := [(2, .int 8), (0, .ref h0), (1, .int a)]) hx hb dX6_putNumber_40 hl (k := 0) rfl (by decide) (by decide) rfl (fun ls hl => ?_)
  refine lv_goto (tgt := 3) hx hb dX6_putNumber_43 (by decide) ?_
  refine lv_iload_n hx hb dX6_putNumber_3 rfl (lv_at hl 0 rfl) ?_
  refine lv_if_lt (tgt := 46) hx hb dX6_putNumber_4 (by decide) (fun c_ => absurd c_ (by decide)) (fun _ => ?_)
  refine lv_aload_n hx hb dX6_putNumber_7 rfl (lv_at hl 1 rfl) ?_
  refine va_get (D := G) (ci := 6) (v := .int 2) (C := RX6) (T := TX6) (N := 16) hx hb hw inlX6 hown hK hP 0 rfl rfl 1 (by decide) (hw _ wd_7_12) (fun _ h9 => h9) rfl dX6_putNumber_8 ?_
  refine lv_sipush (v := 400) hx hb dX6_putNumber_11 (by decide) ?_
  refine lv_icmp_ge (tgt := 40) hx hb dX6_putNumber_14 (by decide) (fun c_ => absurd c_ (by decide)) (fun _ => ?_)
  refine lv_aload_n hx hb dX6_putNumber_17 rfl (lv_at hl 1 rfl) ?_
  refine va_get (D := G) (ci := 6) (v := .ref o_tape) (C := RX6) (T := TX6) (N := 16) hx hb hw inlX6 hown hK hP 0 rfl rfl 0 (by decide) (hw _ wd_1_13) (fun _ h9 => h9) rfl dX6_putNumber_18 ?_
  refine lv_aload_n hx hb dX6_putNumber_21 rfl (lv_at hl 1 rfl) ?_
  refine va_get (D := G) (ci := 6) (v := .int 2) (C := RX6) (T := TX6) (N := 16) hx hb hw inlX6 hown hK hP 0 rfl rfl 1 (by decide) (hw _ wd_7_12) (fun _ h9 => h9) rfl dX6_putNumber_22 ?_
  refine lv_iload_n hx hb dX6_putNumber_25 rfl (lv_at hl 2 rfl) ?_
  refine lv_iload_n hx hb dX6_putNumber_26 rfl (lv_at hl 0 rfl) ?_
  refine lv_iushr hx hb dX6_putNumber_27 rfl ?_
  refine lv_topi (fun z_7 ez_7 => ?_)
  refine lv_i2b hx hb dX6_putNumber_28 rfl ?_
  refine lv_topi (fun z_8 ez_8 => ?_)
  refine stB F hK hP hD hS 1 rfl (vin (by decide)) dX6_putNumber_29 (fun f_9 ef_9 H locs hP hD hS => ?_)
  have hP : va_P G vwCl [(h0, .inr (6, [.ref o_tape, .int 2, .ref o_river, .ref o_spare, .ref o_state, .ref o_past, .int o_nextPast, .int o_acts, .ref o_shelfRivers, .ref o_shelfStates, .int o_kept, .ref o_today, .ref o_outlook, .ref o_reader, .ref o_writer, .ref o_unchanged])), (o_tape, .inl (k 1, 400, .inl f_9))] H := hP
  have hD : va_D A [(h0, .inr (6, [.ref o_tape, .int 2, .ref o_river, .ref o_spare, .ref o_state, .ref o_past, .int o_nextPast, .int o_acts, .ref o_shelfRivers, .ref o_shelfStates, .int o_kept, .ref o_today, .ref o_outlook, .ref o_reader, .ref o_writer, .ref o_unchanged])), (o_tape, .inl (k 1, 400, .inl f_9))] := hD
  refine lv_aload_n hx hb dX6_putNumber_30 rfl (lv_at hl 1 rfl) ?_
  refine lv_dup hx hb dX6_putNumber_31 rfl ?_
  refine va_get (D := G) (ci := 6) (v := .int 2) (C := RX6) (T := TX6) (N := 16) hx hb hw inlX6 hown hK hP 0 rfl rfl 1 (by decide) (hw _ wd_7_12) (fun _ h9 => h9) rfl dX6_putNumber_32 ?_
  refine lv_iconst (v := 1) hx hb dX6_putNumber_35 (by decide) ?_
  refine lv_iadd hx hb dX6_putNumber_36 ?_
  refine topc (v := 3) (by decide) ?_
  refine va_put (D := G) (ci := 6) (v := .int 3) (ty := .int) (C := RX6) (T := TX6) (N := 16) hx hb hw inlX6 tyX6 tyX6_ok nmX6 hown hK hP hD hS 0 rfl rfl 1 (by decide) (hw _ wd_7_12) (fun _ h9 => h9) rfl (tyX6_ok 1 (by decide)) rfl rfl (Nat.le_of_ble_eq_true rfl) dX6_putNumber_37 (fun H locs hP hD hS => ?_)
  have hP : va_P G vwCl [(h0, .inr (6, [.ref o_tape, .int 3, .ref o_river, .ref o_spare, .ref o_state, .ref o_past, .int o_nextPast, .int o_acts, .ref o_shelfRivers, .ref o_shelfStates, .int o_kept, .ref o_today, .ref o_outlook, .ref o_reader, .ref o_writer, .ref o_unchanged])), (o_tape, .inl (k 1, 400, .inl f_9))] H := hP
  have hD : va_D A [(h0, .inr (6, [.ref o_tape, .int 3, .ref o_river, .ref o_spare, .ref o_state, .ref o_past, .int o_nextPast, .int o_acts, .ref o_shelfRivers, .ref o_shelfStates, .int o_kept, .ref o_today, .ref o_outlook, .ref o_reader, .ref o_writer, .ref o_unchanged])), (o_tape, .inl (k 1, 400, .inl f_9))] := hD
  refine lv_iinc (v := 0) (lv' := [(2, .int 0), (0, .ref h0), (1, .int a)]) hx hb dX6_putNumber_40 hl (k := 0) rfl (by decide) (by decide) rfl (fun ls hl => ?_)
  refine lv_goto (tgt := 3) hx hb dX6_putNumber_43 (by decide) ?_
  refine lv_iload_n hx hb dX6_putNumber_3 rfl (lv_at hl 0 rfl) ?_
  refine lv_if_lt (tgt := 46) hx hb dX6_putNumber_4 (by decide) (fun c_ => absurd c_ (by decide)) (fun _ => ?_)
  refine lv_aload_n hx hb dX6_putNumber_7 rfl (lv_at hl 1 rfl) ?_
  refine va_get (D := G) (ci := 6) (v := .int 3) (C := RX6) (T := TX6) (N := 16) hx hb hw inlX6 hown hK hP 0 rfl rfl 1 (by decide) (hw _ wd_7_12) (fun _ h9 => h9) rfl dX6_putNumber_8 ?_
  refine lv_sipush (v := 400) hx hb dX6_putNumber_11 (by decide) ?_
  refine lv_icmp_ge (tgt := 40) hx hb dX6_putNumber_14 (by decide) (fun c_ => absurd c_ (by decide)) (fun _ => ?_)
  refine lv_aload_n hx hb dX6_putNumber_17 rfl (lv_at hl 1 rfl) ?_
  refine va_get (D := G) (ci := 6) (v := .ref o_tape) (C := RX6) (T := TX6) (N := 16) hx hb hw inlX6 hown hK hP 0 rfl rfl 0 (by decide) (hw _ wd_1_13) (fun _ h9 => h9) rfl dX6_putNumber_18 ?_
  refine lv_aload_n hx hb dX6_putNumber_21 rfl (lv_at hl 1 rfl) ?_
  refine va_get (D := G) (ci := 6) (v := .int 3) (C := RX6) (T := TX6) (N := 16) hx hb hw inlX6 hown hK hP 0 rfl rfl 1 (by decide) (hw _ wd_7_12) (fun _ h9 => h9) rfl dX6_putNumber_22 ?_
  refine lv_iload_n hx hb dX6_putNumber_25 rfl (lv_at hl 2 rfl) ?_
  refine lv_iload_n hx hb dX6_putNumber_26 rfl (lv_at hl 0 rfl) ?_
  refine lv_iushr hx hb dX6_putNumber_27 rfl ?_
  refine lv_topi (fun z_10 ez_10 => ?_)
  refine lv_i2b hx hb dX6_putNumber_28 rfl ?_
  refine lv_topi (fun z_11 ez_11 => ?_)
  refine stB F hK hP hD hS 1 rfl (vin (by decide)) dX6_putNumber_29 (fun f_12 ef_12 H locs hP hD hS => ?_)
  have hP : va_P G vwCl [(h0, .inr (6, [.ref o_tape, .int 3, .ref o_river, .ref o_spare, .ref o_state, .ref o_past, .int o_nextPast, .int o_acts, .ref o_shelfRivers, .ref o_shelfStates, .int o_kept, .ref o_today, .ref o_outlook, .ref o_reader, .ref o_writer, .ref o_unchanged])), (o_tape, .inl (k 1, 400, .inl f_12))] H := hP
  have hD : va_D A [(h0, .inr (6, [.ref o_tape, .int 3, .ref o_river, .ref o_spare, .ref o_state, .ref o_past, .int o_nextPast, .int o_acts, .ref o_shelfRivers, .ref o_shelfStates, .int o_kept, .ref o_today, .ref o_outlook, .ref o_reader, .ref o_writer, .ref o_unchanged])), (o_tape, .inl (k 1, 400, .inl f_12))] := hD
  refine lv_aload_n hx hb dX6_putNumber_30 rfl (lv_at hl 1 rfl) ?_
  refine lv_dup hx hb dX6_putNumber_31 rfl ?_
  refine va_get (D := G) (ci := 6) (v := .int 3) (C := RX6) (T := TX6) (N := 16) hx hb hw inlX6 hown hK hP 0 rfl rfl 1 (by decide) (hw _ wd_7_12) (fun _ h9 => h9) rfl dX6_putNumber_32 ?_
  refine lv_iconst (v := 1) hx hb dX6_putNumber_35 (by decide) ?_
  refine lv_iadd hx hb dX6_putNumber_36 ?_
  refine topc (v := 4) (by decide) ?_
  refine va_put (D := G) (ci := 6) (v := .int 4) (ty := .int) (C := RX6) (T := TX6) (N := 16) hx hb hw inlX6 tyX6 tyX6_ok nmX6 hown hK hP hD hS 0 rfl rfl 1 (by decide) (hw _ wd_7_12) (fun _ h9 => h9) rfl (tyX6_ok 1 (by decide)) rfl rfl (Nat.le_of_ble_eq_true rfl) dX6_putNumber_37 (fun H locs hP hD hS => ?_)
  have hP : va_P G vwCl [(h0, .inr (6, [.ref o_tape, .int 4, .ref o_river, .ref o_spare, .ref o_state, .ref o_past, .int o_nextPast, .int o_acts, .ref o_shelfRivers, .ref o_shelfStates, .int o_kept, .ref o_today, .ref o_outlook, .ref o_reader, .ref o_writer, .ref o_unchanged])), (o_tape, .inl (k 1, 400, .inl f_12))] H := hP
  have hD : va_D A [(h0, .inr (6, [.ref o_tape, .int 4, .ref o_river, .ref o_spare, .ref o_state, .ref o_past, .int o_nextPast, .int o_acts, .ref o_shelfRivers, .ref o_shelfStates, .int o_kept, .ref o_today, .ref o_outlook, .ref o_reader, .ref o_writer, .ref o_unchanged])), (o_tape, .inl (k 1, 400, .inl f_12))] := hD
  refine lv_iinc (v := (-8)) (lv' := [(2, .int (-8)), (0, .ref h0), (1, .int a)]) hx hb dX6_putNumber_40 hl (k := 0) rfl (by decide) (by decide) rfl (fun ls hl => ?_)
  refine lv_goto (tgt := 3) hx hb dX6_putNumber_43 (by decide) ?_
  refine lv_iload_n hx hb dX6_putNumber_3 rfl (lv_at hl 0 rfl) ?_
  refine lv_if_lt (tgt := 46) hx hb dX6_putNumber_4 (by decide) (fun _ => ?_) (fun c_ => absurd (by decide) c_)
  exact exV (w := [(h0, .inr (6, [.ref o_tape, .int 4, .ref o_river, .ref o_spare, .ref o_state, .ref o_past, .int o_nextPast, .int o_acts, .ref o_shelfRivers, .ref o_shelfStates, .int o_kept, .ref o_today, .ref o_outlook, .ref o_reader, .ref o_writer, .ref o_unchanged])), (o_tape, .inl (k 1, 400, .inl f_12))]) F hP hD hS dX6_putNumber_46 [0, 1] (by decide) rfl rfl (⟨f_12, rfl⟩)
set_option maxHeartbeats 4000000 in
set_option maxRecDepth 100000 in
theorem c_X6_putNumber_4 (l : Launch) (G : va_G) (k : Nat → ClassId) (h0 : Nat) (o_tape : Nat) (o_river : Nat) (o_spare : Nat) (o_state : Nat) (o_past : Nat) (o_shelfRivers : Nat) (o_shelfStates : Nat) (o_today : Nat) (o_outlook : Nat) (o_reader : Nat) (o_writer : Nat) (o_unchanged : Nat) (o_nextPast : Int32) (o_acts : Int32) (o_kept : Int32) (f : Nat → Int32) (a : Int32) : CtV l G k yX6_putNumber cX6_putNumber 3 ({ frames := 1, cells := 0, slots := 0, locals := 40 }) [.ref h0, .int a] [(h0, .inr (6, [.ref o_tape, .int 4, .ref o_river, .ref o_spare, .ref o_state, .ref o_past, .int o_nextPast, .int o_acts, .ref o_shelfRivers, .ref o_shelfStates, .int o_kept, .ref o_today, .ref o_outlook, .ref o_reader, .ref o_writer, .ref o_unchanged])), (o_tape, .inl (k 1, 400, .inl f))] (fun w => ∃ g : Nat → Int32, w = [(h0, .inr (6, [.ref o_tape, .int 8, .ref o_river, .ref o_spare, .ref o_state, .ref o_past, .int o_nextPast, .int o_acts, .ref o_shelfRivers, .ref o_shelfStates, .int o_kept, .ref o_today, .ref o_outlook, .ref o_reader, .ref o_writer, .ref o_unchanged])), (o_tape, .inl (k 1, 400, .inl g))]) := by
  refine enV (by decide) (Nat.le_of_ble_eq_true rfl) ?_
  intro pg_ ev_ s mi_ below_ meth cd_ ls A F hK hN hA hP hD hS hl
  obtain ⟨hx, hb, hr, hml, hown, hlk, hw, hin⟩ := id F
  have hown : s.vm.findClass RX6 = some mi_.cls := hown
  have hl : lv_has ls 3 [(0, .ref h0), (1, .int a)] := hl
  refine lv_bipush (v := 24) hx hb dX6_putNumber_0 (by decide) ?_
  refine lv_istore_n (lv' := [(2, .int 24), (0, .ref h0), (1, .int a)]) hx hb dX6_putNumber_2 rfl hl (by decide) rfl (fun ls hl => ?_)
  refine lv_iload_n hx hb dX6_putNumber_3 rfl (lv_at hl 0 rfl) ?_
  refine lv_if_lt (tgt := 46) hx hb dX6_putNumber_4 (by decide) (fun c_ => absurd c_ (by decide)) (fun _ => ?_)
  refine lv_aload_n hx hb dX6_putNumber_7 rfl (lv_at hl 1 rfl) ?_
  refine va_get (D := G) (ci := 6) (v := .int 4) (C := RX6) (T := TX6) (N := 16) hx hb hw inlX6 hown hK hP 0 rfl rfl 1 (by decide) (hw _ wd_7_12) (fun _ h9 => h9) rfl dX6_putNumber_8 ?_
  refine lv_sipush (v := 400) hx hb dX6_putNumber_11 (by decide) ?_
  refine lv_icmp_ge (tgt := 40) hx hb dX6_putNumber_14 (by decide) (fun c_ => absurd c_ (by decide)) (fun _ => ?_)
  refine lv_aload_n hx hb dX6_putNumber_17 rfl (lv_at hl 1 rfl) ?_
  refine va_get (D := G) (ci := 6) (v := .ref o_tape) (C := RX6) (T := TX6) (N := 16) hx hb hw inlX6 hown hK hP 0 rfl rfl 0 (by decide) (hw _ wd_1_13) (fun _ h9 => h9) rfl dX6_putNumber_18 ?_
  refine lv_aload_n hx hb dX6_putNumber_21 rfl (lv_at hl 1 rfl) ?_
  refine va_get (D := G) (ci := 6) (v := .int 4) (C := RX6) (T := TX6) (N := 16) hx hb hw inlX6 hown hK hP 0 rfl rfl 1 (by decide) (hw _ wd_7_12) (fun _ h9 => h9) rfl dX6_putNumber_22 ?_
  refine lv_iload_n hx hb dX6_putNumber_25 rfl (lv_at hl 2 rfl) ?_
  refine lv_iload_n hx hb dX6_putNumber_26 rfl (lv_at hl 0 rfl) ?_
  refine lv_iushr hx hb dX6_putNumber_27 rfl ?_
  refine lv_topi (fun z_1 ez_1 => ?_)
  refine lv_i2b hx hb dX6_putNumber_28 rfl ?_
  refine lv_topi (fun z_2 ez_2 => ?_)
  refine stB F hK hP hD hS 1 rfl (vin (by decide)) dX6_putNumber_29 (fun f_3 ef_3 H locs hP hD hS => ?_)
  have hP : va_P G vwCl [(h0, .inr (6, [.ref o_tape, .int 4, .ref o_river, .ref o_spare, .ref o_state, .ref o_past, .int o_nextPast, .int o_acts, .ref o_shelfRivers, .ref o_shelfStates, .int o_kept, .ref o_today, .ref o_outlook, .ref o_reader, .ref o_writer, .ref o_unchanged])), (o_tape, .inl (k 1, 400, .inl f_3))] H := hP
  have hD : va_D A [(h0, .inr (6, [.ref o_tape, .int 4, .ref o_river, .ref o_spare, .ref o_state, .ref o_past, .int o_nextPast, .int o_acts, .ref o_shelfRivers, .ref o_shelfStates, .int o_kept, .ref o_today, .ref o_outlook, .ref o_reader, .ref o_writer, .ref o_unchanged])), (o_tape, .inl (k 1, 400, .inl f_3))] := hD
  refine lv_aload_n hx hb dX6_putNumber_30 rfl (lv_at hl 1 rfl) ?_
  refine lv_dup hx hb dX6_putNumber_31 rfl ?_
  refine va_get (D := G) (ci := 6) (v := .int 4) (C := RX6) (T := TX6) (N := 16) hx hb hw inlX6 hown hK hP 0 rfl rfl 1 (by decide) (hw _ wd_7_12) (fun _ h9 => h9) rfl dX6_putNumber_32 ?_
  refine lv_iconst (v := 1) hx hb dX6_putNumber_35 (by decide) ?_
  refine lv_iadd hx hb dX6_putNumber_36 ?_
  refine topc (v := 5) (by decide) ?_
  refine va_put (D := G) (ci := 6) (v := .int 5) (ty := .int) (C := RX6) (T := TX6) (N := 16) hx hb hw inlX6 tyX6 tyX6_ok nmX6 hown hK hP hD hS 0 rfl rfl 1 (by decide) (hw _ wd_7_12) (fun _ h9 => h9) rfl (tyX6_ok 1 (by decide)) rfl rfl (Nat.le_of_ble_eq_true rfl) dX6_putNumber_37 (fun H locs hP hD hS => ?_)
  have hP : va_P G vwCl [(h0, .inr (6, [.ref o_tape, .int 5, .ref o_river, .ref o_spare, .ref o_state, .ref o_past, .int o_nextPast, .int o_acts, .ref o_shelfRivers, .ref o_shelfStates, .int o_kept, .ref o_today, .ref o_outlook, .ref o_reader, .ref o_writer, .ref o_unchanged])), (o_tape, .inl (k 1, 400, .inl f_3))] H := hP
  have hD : va_D A [(h0, .inr (6, [.ref o_tape, .int 5, .ref o_river, .ref o_spare, .ref o_state, .ref o_past, .int o_nextPast, .int o_acts, .ref o_shelfRivers, .ref o_shelfStates, .int o_kept, .ref o_today, .ref o_outlook, .ref o_reader, .ref o_writer, .ref o_unchanged])), (o_tape, .inl (k 1, 400, .inl f_3))] := hD
  refine lv_iinc (v := 16) (lv' := [(2, .int 16), (0, .ref h0), (1, .int a)]) hx hb dX6_putNumber_40 hl (k := 0) rfl (by decide) (by decide) rfl (fun ls hl => ?_)
  refine lv_goto (tgt := 3) hx hb dX6_putNumber_43 (by decide) ?_
  refine lv_iload_n hx hb dX6_putNumber_3 rfl (lv_at hl 0 rfl) ?_
  refine lv_if_lt (tgt := 46) hx hb dX6_putNumber_4 (by decide) (fun c_ => absurd c_ (by decide)) (fun _ => ?_)
  refine lv_aload_n hx hb dX6_putNumber_7 rfl (lv_at hl 1 rfl) ?_
  refine va_get (D := G) (ci := 6) (v := .int 5) (C := RX6) (T := TX6) (N := 16) hx hb hw inlX6 hown hK hP 0 rfl rfl 1 (by decide) (hw _ wd_7_12) (fun _ h9 => h9) rfl dX6_putNumber_8 ?_
  refine lv_sipush (v := 400) hx hb dX6_putNumber_11 (by decide) ?_
  refine lv_icmp_ge (tgt := 40) hx hb dX6_putNumber_14 (by decide) (fun c_ => absurd c_ (by decide)) (fun _ => ?_)
  refine lv_aload_n hx hb dX6_putNumber_17 rfl (lv_at hl 1 rfl) ?_
  refine va_get (D := G) (ci := 6) (v := .ref o_tape) (C := RX6) (T := TX6) (N := 16) hx hb hw inlX6 hown hK hP 0 rfl rfl 0 (by decide) (hw _ wd_1_13) (fun _ h9 => h9) rfl dX6_putNumber_18 ?_
  refine lv_aload_n hx hb dX6_putNumber_21 rfl (lv_at hl 1 rfl) ?_
  refine va_get (D := G) (ci := 6) (v := .int 5) (C := RX6) (T := TX6) (N := 16) hx hb hw inlX6 hown hK hP 0 rfl rfl 1 (by decide) (hw _ wd_7_12) (fun _ h9 => h9) rfl dX6_putNumber_22 ?_
  refine lv_iload_n hx hb dX6_putNumber_25 rfl (lv_at hl 2 rfl) ?_
  refine lv_iload_n hx hb dX6_putNumber_26 rfl (lv_at hl 0 rfl) ?_
  refine lv_iushr hx hb dX6_putNumber_27 rfl ?_
  refine lv_topi (fun z_4 ez_4 => ?_)
  refine lv_i2b hx hb dX6_putNumber_28 rfl ?_
  refine lv_topi (fun z_5 ez_5 => ?_)
  refine stB F hK hP hD hS 1 rfl (vin (by decide)) dX6_putNumber_29 (fun f_6 ef_6 H locs hP hD hS => ?_)
  have hP : va_P G vwCl [(h0, .inr (6, [.ref o_tape, .int 5, .ref o_river, .ref o_spare, .ref o_state, .ref o_past, .int o_nextPast, .int o_acts, .ref o_shelfRivers, .ref o_shelfStates, .int o_kept, .ref o_today, .ref o_outlook, .ref o_reader, .ref o_writer, .ref o_unchanged])), (o_tape, .inl (k 1, 400, .inl f_6))] H := hP
  have hD : va_D A [(h0, .inr (6, [.ref o_tape, .int 5, .ref o_river, .ref o_spare, .ref o_state, .ref o_past, .int o_nextPast, .int o_acts, .ref o_shelfRivers, .ref o_shelfStates, .int o_kept, .ref o_today, .ref o_outlook, .ref o_reader, .ref o_writer, .ref o_unchanged])), (o_tape, .inl (k 1, 400, .inl f_6))] := hD
  refine lv_aload_n hx hb dX6_putNumber_30 rfl (lv_at hl 1 rfl) ?_
  refine lv_dup hx hb dX6_putNumber_31 rfl ?_
  refine va_get (D := G) (ci := 6) (v := .int 5) (C := RX6) (T := TX6) (N := 16) hx hb hw inlX6 hown hK hP 0 rfl rfl 1 (by decide) (hw _ wd_7_12) (fun _ h9 => h9) rfl dX6_putNumber_32 ?_
  refine lv_iconst (v := 1) hx hb dX6_putNumber_35 (by decide) ?_
  refine lv_iadd hx hb dX6_putNumber_36 ?_
  refine topc (v := 6) (by decide) ?_
  refine va_put (D := G) (ci := 6) (v := .int 6) (ty := .int) (C := RX6) (T := TX6) (N := 16) hx hb hw inlX6 tyX6 tyX6_ok nmX6 hown hK hP hD hS 0 rfl rfl 1 (by decide) (hw _ wd_7_12) (fun _ h9 => h9) rfl (tyX6_ok 1 (by decide)) rfl rfl (Nat.le_of_ble_eq_true rfl) dX6_putNumber_37 (fun H locs hP hD hS => ?_)
  have hP : va_P G vwCl [(h0, .inr (6, [.ref o_tape, .int 6, .ref o_river, .ref o_spare, .ref o_state, .ref o_past, .int o_nextPast, .int o_acts, .ref o_shelfRivers, .ref o_shelfStates, .int o_kept, .ref o_today, .ref o_outlook, .ref o_reader, .ref o_writer, .ref o_unchanged])), (o_tape, .inl (k 1, 400, .inl f_6))] H := hP
  have hD : va_D A [(h0, .inr (6, [.ref o_tape, .int 6, .ref o_river, .ref o_spare, .ref o_state, .ref o_past, .int o_nextPast, .int o_acts, .ref o_shelfRivers, .ref o_shelfStates, .int o_kept, .ref o_today, .ref o_outlook, .ref o_reader, .ref o_writer, .ref o_unchanged])), (o_tape, .inl (k 1, 400, .inl f_6))] := hD
  refine lv_iinc (v := 8) (lv' := [(2, .int 8), (0, .ref h0), (1, .int a)]) hx hb dX6_putNumber_40 hl (k := 0) rfl (by decide) (by decide) rfl (fun ls hl => ?_)
  refine lv_goto (tgt := 3) hx hb dX6_putNumber_43 (by decide) ?_
  refine lv_iload_n hx hb dX6_putNumber_3 rfl (lv_at hl 0 rfl) ?_
  refine lv_if_lt (tgt := 46) hx hb dX6_putNumber_4 (by decide) (fun c_ => absurd c_ (by decide)) (fun _ => ?_)
  refine lv_aload_n hx hb dX6_putNumber_7 rfl (lv_at hl 1 rfl) ?_
  refine va_get (D := G) (ci := 6) (v := .int 6) (C := RX6) (T := TX6) (N := 16) hx hb hw inlX6 hown hK hP 0 rfl rfl 1 (by decide) (hw _ wd_7_12) (fun _ h9 => h9) rfl dX6_putNumber_8 ?_
  refine lv_sipush (v := 400) hx hb dX6_putNumber_11 (by decide) ?_
  refine lv_icmp_ge (tgt := 40) hx hb dX6_putNumber_14 (by decide) (fun c_ => absurd c_ (by decide)) (fun _ => ?_)
  refine lv_aload_n hx hb dX6_putNumber_17 rfl (lv_at hl 1 rfl) ?_
  refine va_get (D := G) (ci := 6) (v := .ref o_tape) (C := RX6) (T := TX6) (N := 16) hx hb hw inlX6 hown hK hP 0 rfl rfl 0 (by decide) (hw _ wd_1_13) (fun _ h9 => h9) rfl dX6_putNumber_18 ?_
  refine lv_aload_n hx hb dX6_putNumber_21 rfl (lv_at hl 1 rfl) ?_
  refine va_get (D := G) (ci := 6) (v := .int 6) (C := RX6) (T := TX6) (N := 16) hx hb hw inlX6 hown hK hP 0 rfl rfl 1 (by decide) (hw _ wd_7_12) (fun _ h9 => h9) rfl dX6_putNumber_22 ?_
  refine lv_iload_n hx hb dX6_putNumber_25 rfl (lv_at hl 2 rfl) ?_
  refine lv_iload_n hx hb dX6_putNumber_26 rfl (lv_at hl 0 rfl) ?_
  refine lv_iushr hx hb dX6_putNumber_27 rfl ?_
  refine lv_topi (fun z_7 ez_7 => ?_)
  refine lv_i2b hx hb dX6_putNumber_28 rfl ?_
  refine lv_topi (fun z_8 ez_8 => ?_)
  refine stB F hK hP hD hS 1 rfl (vin (by decide)) dX6_putNumber_29 (fun f_9 ef_9 H locs hP hD hS => ?_)
  have hP : va_P G vwCl [(h0, .inr (6, [.ref o_tape, .int 6, .ref o_river, .ref o_spare, .ref o_state, .ref o_past, .int o_nextPast, .int o_acts, .ref o_shelfRivers, .ref o_shelfStates, .int o_kept, .ref o_today, .ref o_outlook, .ref o_reader, .ref o_writer, .ref o_unchanged])), (o_tape, .inl (k 1, 400, .inl f_9))] H := hP
  have hD : va_D A [(h0, .inr (6, [.ref o_tape, .int 6, .ref o_river, .ref o_spare, .ref o_state, .ref o_past, .int o_nextPast, .int o_acts, .ref o_shelfRivers, .ref o_shelfStates, .int o_kept, .ref o_today, .ref o_outlook, .ref o_reader, .ref o_writer, .ref o_unchanged])), (o_tape, .inl (k 1, 400, .inl f_9))] := hD
  refine lv_aload_n hx hb dX6_putNumber_30 rfl (lv_at hl 1 rfl) ?_
  refine lv_dup hx hb dX6_putNumber_31 rfl ?_
  refine va_get (D := G) (ci := 6) (v := .int 6) (C := RX6) (T := TX6) (N := 16) hx hb hw inlX6 hown hK hP 0 rfl rfl 1 (by decide) (hw _ wd_7_12) (fun _ h9 => h9) rfl dX6_putNumber_32 ?_
  refine lv_iconst (v := 1) hx hb dX6_putNumber_35 (by decide) ?_
  refine lv_iadd hx hb dX6_putNumber_36 ?_
  refine topc (v := 7) (by decide) ?_
  refine va_put (D := G) (ci := 6) (v := .int 7) (ty := .int) (C := RX6) (T := TX6) (N := 16) hx hb hw inlX6 tyX6 tyX6_ok nmX6 hown hK hP hD hS 0 rfl rfl 1 (by decide) (hw _ wd_7_12) (fun _ h9 => h9) rfl (tyX6_ok 1 (by decide)) rfl rfl (Nat.le_of_ble_eq_true rfl) dX6_putNumber_37 (fun H locs hP hD hS => ?_)
  have hP : va_P G vwCl [(h0, .inr (6, [.ref o_tape, .int 7, .ref o_river, .ref o_spare, .ref o_state, .ref o_past, .int o_nextPast, .int o_acts, .ref o_shelfRivers, .ref o_shelfStates, .int o_kept, .ref o_today, .ref o_outlook, .ref o_reader, .ref o_writer, .ref o_unchanged])), (o_tape, .inl (k 1, 400, .inl f_9))] H := hP
  have hD : va_D A [(h0, .inr (6, [.ref o_tape, .int 7, .ref o_river, .ref o_spare, .ref o_state, .ref o_past, .int o_nextPast, .int o_acts, .ref o_shelfRivers, .ref o_shelfStates, .int o_kept, .ref o_today, .ref o_outlook, .ref o_reader, .ref o_writer, .ref o_unchanged])), (o_tape, .inl (k 1, 400, .inl f_9))] := hD
  refine lv_iinc (v := 0) (lv' := [(2, .int 0), (0, .ref h0), (1, .int a)]) hx hb dX6_putNumber_40 hl (k := 0) rfl (by decide) (by decide) rfl (fun ls hl => ?_)
  refine lv_goto (tgt := 3) hx hb dX6_putNumber_43 (by decide) ?_
  refine lv_iload_n hx hb dX6_putNumber_3 rfl (lv_at hl 0 rfl) ?_
  refine lv_if_lt (tgt := 46) hx hb dX6_putNumber_4 (by decide) (fun c_ => absurd c_ (by decide)) (fun _ => ?_)
  refine lv_aload_n hx hb dX6_putNumber_7 rfl (lv_at hl 1 rfl) ?_
  refine va_get (D := G) (ci := 6) (v := .int 7) (C := RX6) (T := TX6) (N := 16) hx hb hw inlX6 hown hK hP 0 rfl rfl 1 (by decide) (hw _ wd_7_12) (fun _ h9 => h9) rfl dX6_putNumber_8 ?_
  refine lv_sipush (v := 400) hx hb dX6_putNumber_11 (by decide) ?_
  refine lv_icmp_ge (tgt := 40) hx hb dX6_putNumber_14 (by decide) (fun c_ => absurd c_ (by decide)) (fun _ => ?_)
  refine lv_aload_n hx hb dX6_putNumber_17 rfl (lv_at hl 1 rfl) ?_
  refine va_get (D := G) (ci := 6) (v := .ref o_tape) (C := RX6) (T := TX6) (N := 16) hx hb hw inlX6 hown hK hP 0 rfl rfl 0 (by decide) (hw _ wd_1_13) (fun _ h9 => h9) rfl dX6_putNumber_18 ?_
  refine lv_aload_n hx hb dX6_putNumber_21 rfl (lv_at hl 1 rfl) ?_
  refine va_get (D := G) (ci := 6) (v := .int 7) (C := RX6) (T := TX6) (N := 16) hx hb hw inlX6 hown hK hP 0 rfl rfl 1 (by decide) (hw _ wd_7_12) (fun _ h9 => h9) rfl dX6_putNumber_22 ?_
  refine lv_iload_n hx hb dX6_putNumber_25 rfl (lv_at hl 2 rfl) ?_
  refine lv_iload_n hx hb dX6_putNumber_26 rfl (lv_at hl 0 rfl) ?_
  refine lv_iushr hx hb dX6_putNumber_27 rfl ?_
  refine lv_topi (fun z_10 ez_10 => ?_)
  refine lv_i2b hx hb dX6_putNumber_28 rfl ?_
  refine lv_topi (fun z_11 ez_11 => ?_)
  refine stB F hK hP hD hS 1 rfl (vin (by decide)) dX6_putNumber_29 (fun f_12 ef_12 H locs hP hD hS => ?_)
  have hP : va_P G vwCl [(h0, .inr (6, [.ref o_tape, .int 7, .ref o_river, .ref o_spare, .ref o_state, .ref o_past, .int o_nextPast, .int o_acts, .ref o_shelfRivers, .ref o_shelfStates, .int o_kept, .ref o_today, .ref o_outlook, .ref o_reader, .ref o_writer, .ref o_unchanged])), (o_tape, .inl (k 1, 400, .inl f_12))] H := hP
  have hD : va_D A [(h0, .inr (6, [.ref o_tape, .int 7, .ref o_river, .ref o_spare, .ref o_state, .ref o_past, .int o_nextPast, .int o_acts, .ref o_shelfRivers, .ref o_shelfStates, .int o_kept, .ref o_today, .ref o_outlook, .ref o_reader, .ref o_writer, .ref o_unchanged])), (o_tape, .inl (k 1, 400, .inl f_12))] := hD
  refine lv_aload_n hx hb dX6_putNumber_30 rfl (lv_at hl 1 rfl) ?_
  refine lv_dup hx hb dX6_putNumber_31 rfl ?_
  refine va_get (D := G) (ci := 6) (v := .int 7) (C := RX6) (T := TX6) (N := 16) hx hb hw inlX6 hown hK hP 0 rfl rfl 1 (by decide) (hw _ wd_7_12) (fun _ h9 => h9) rfl dX6_putNumber_32 ?_
  refine lv_iconst (v := 1) hx hb dX6_putNumber_35 (by decide) ?_
  refine lv_iadd hx hb dX6_putNumber_36 ?_
  refine topc (v := 8) (by decide) ?_
  refine va_put (D := G) (ci := 6) (v := .int 8) (ty := .int) (C := RX6) (T := TX6) (N := 16) hx hb hw inlX6 tyX6 tyX6_ok nmX6 hown hK hP hD hS 0 rfl rfl 1 (by decide) (hw _ wd_7_12) (fun _ h9 => h9) rfl (tyX6_ok 1 (by decide)) rfl rfl (Nat.le_of_ble_eq_true rfl) dX6_putNumber_37 (fun H locs hP hD hS => ?_)
  have hP : va_P G vwCl [(h0, .inr (6, [.ref o_tape, .int 8, .ref o_river, .ref o_spare, .ref o_state, .ref o_past, .int o_nextPast, .int o_acts, .ref o_shelfRivers, .ref o_shelfStates, .int o_kept, .ref o_today, .ref o_outlook, .ref o_reader, .ref o_writer, .ref o_unchanged])), (o_tape, .inl (k 1, 400, .inl f_12))] H := hP
  have hD : va_D A [(h0, .inr (6, [.ref o_tape, .int 8, .ref o_river, .ref o_spare, .ref o_state, .ref o_past, .int o_nextPast, .int o_acts, .ref o_shelfRivers, .ref o_shelfStates, .int o_kept, .ref o_today, .ref o_outlook, .ref o_reader, .ref o_writer, .ref o_unchanged])), (o_tape, .inl (k 1, 400, .inl f_12))] := hD
  refine lv_iinc (v := (-8)) (lv' := [(2, .int (-8)), (0, .ref h0), (1, .int a)]) hx hb dX6_putNumber_40 hl (k := 0) rfl (by decide) (by decide) rfl (fun ls hl => ?_)
  refine lv_goto (tgt := 3) hx hb dX6_putNumber_43 (by decide) ?_
  refine lv_iload_n hx hb dX6_putNumber_3 rfl (lv_at hl 0 rfl) ?_
  refine lv_if_lt (tgt := 46) hx hb dX6_putNumber_4 (by decide) (fun _ => ?_) (fun c_ => absurd (by decide) c_)
  exact exV (w := [(h0, .inr (6, [.ref o_tape, .int 8, .ref o_river, .ref o_spare, .ref o_state, .ref o_past, .int o_nextPast, .int o_acts, .ref o_shelfRivers, .ref o_shelfStates, .int o_kept, .ref o_today, .ref o_outlook, .ref o_reader, .ref o_writer, .ref o_unchanged])), (o_tape, .inl (k 1, 400, .inl f_12))]) F hP hD hS dX6_putNumber_46 [0, 1] (by decide) rfl rfl (⟨f_12, rfl⟩)
set_option maxHeartbeats 4000000 in
set_option maxRecDepth 100000 in
theorem c_X6_putNumber_8 (l : Launch) (G : va_G) (k : Nat → ClassId) (h0 : Nat) (o_tape : Nat) (o_river : Nat) (o_spare : Nat) (o_state : Nat) (o_past : Nat) (o_shelfRivers : Nat) (o_shelfStates : Nat) (o_today : Nat) (o_outlook : Nat) (o_reader : Nat) (o_writer : Nat) (o_unchanged : Nat) (o_nextPast : Int32) (o_acts : Int32) (o_kept : Int32) (f : Nat → Int32) (a : Int32) : CtV l G k yX6_putNumber cX6_putNumber 3 ({ frames := 1, cells := 0, slots := 0, locals := 40 }) [.ref h0, .int a] [(h0, .inr (6, [.ref o_tape, .int 8, .ref o_river, .ref o_spare, .ref o_state, .ref o_past, .int o_nextPast, .int o_acts, .ref o_shelfRivers, .ref o_shelfStates, .int o_kept, .ref o_today, .ref o_outlook, .ref o_reader, .ref o_writer, .ref o_unchanged])), (o_tape, .inl (k 1, 400, .inl f))] (fun w => ∃ g : Nat → Int32, w = [(h0, .inr (6, [.ref o_tape, .int 12, .ref o_river, .ref o_spare, .ref o_state, .ref o_past, .int o_nextPast, .int o_acts, .ref o_shelfRivers, .ref o_shelfStates, .int o_kept, .ref o_today, .ref o_outlook, .ref o_reader, .ref o_writer, .ref o_unchanged])), (o_tape, .inl (k 1, 400, .inl g))]) := by
  refine enV (by decide) (Nat.le_of_ble_eq_true rfl) ?_
  intro pg_ ev_ s mi_ below_ meth cd_ ls A F hK hN hA hP hD hS hl
  obtain ⟨hx, hb, hr, hml, hown, hlk, hw, hin⟩ := id F
  have hown : s.vm.findClass RX6 = some mi_.cls := hown
  have hl : lv_has ls 3 [(0, .ref h0), (1, .int a)] := hl
  refine lv_bipush (v := 24) hx hb dX6_putNumber_0 (by decide) ?_
  refine lv_istore_n (lv' := [(2, .int 24), (0, .ref h0), (1, .int a)]) hx hb dX6_putNumber_2 rfl hl (by decide) rfl (fun ls hl => ?_)
  refine lv_iload_n hx hb dX6_putNumber_3 rfl (lv_at hl 0 rfl) ?_
  refine lv_if_lt (tgt := 46) hx hb dX6_putNumber_4 (by decide) (fun c_ => absurd c_ (by decide)) (fun _ => ?_)
  refine lv_aload_n hx hb dX6_putNumber_7 rfl (lv_at hl 1 rfl) ?_
  refine va_get (D := G) (ci := 6) (v := .int 8) (C := RX6) (T := TX6) (N := 16) hx hb hw inlX6 hown hK hP 0 rfl rfl 1 (by decide) (hw _ wd_7_12) (fun _ h9 => h9) rfl dX6_putNumber_8 ?_
  refine lv_sipush (v := 400) hx hb dX6_putNumber_11 (by decide) ?_
  refine lv_icmp_ge (tgt := 40) hx hb dX6_putNumber_14 (by decide) (fun c_ => absurd c_ (by decide)) (fun _ => ?_)
  refine lv_aload_n hx hb dX6_putNumber_17 rfl (lv_at hl 1 rfl) ?_
  refine va_get (D := G) (ci := 6) (v := .ref o_tape) (C := RX6) (T := TX6) (N := 16) hx hb hw inlX6 hown hK hP 0 rfl rfl 0 (by decide) (hw _ wd_1_13) (fun _ h9 => h9) rfl dX6_putNumber_18 ?_
  refine lv_aload_n hx hb dX6_putNumber_21 rfl (lv_at hl 1 rfl) ?_
  refine va_get (D := G) (ci := 6) (v := .int 8) (C := RX6) (T := TX6) (N := 16) hx hb hw inlX6 hown hK hP 0 rfl rfl 1 (by decide) (hw _ wd_7_12) (fun _ h9 => h9) rfl dX6_putNumber_22 ?_
  refine lv_iload_n hx hb dX6_putNumber_25 rfl (lv_at hl 2 rfl) ?_
  refine lv_iload_n hx hb dX6_putNumber_26 rfl (lv_at hl 0 rfl) ?_
  refine lv_iushr hx hb dX6_putNumber_27 rfl ?_
  refine lv_topi (fun z_1 ez_1 => ?_)
  refine lv_i2b hx hb dX6_putNumber_28 rfl ?_
  refine lv_topi (fun z_2 ez_2 => ?_)
  refine stB F hK hP hD hS 1 rfl (vin (by decide)) dX6_putNumber_29 (fun f_3 ef_3 H locs hP hD hS => ?_)
  have hP : va_P G vwCl [(h0, .inr (6, [.ref o_tape, .int 8, .ref o_river, .ref o_spare, .ref o_state, .ref o_past, .int o_nextPast, .int o_acts, .ref o_shelfRivers, .ref o_shelfStates, .int o_kept, .ref o_today, .ref o_outlook, .ref o_reader, .ref o_writer, .ref o_unchanged])), (o_tape, .inl (k 1, 400, .inl f_3))] H := hP
  have hD : va_D A [(h0, .inr (6, [.ref o_tape, .int 8, .ref o_river, .ref o_spare, .ref o_state, .ref o_past, .int o_nextPast, .int o_acts, .ref o_shelfRivers, .ref o_shelfStates, .int o_kept, .ref o_today, .ref o_outlook, .ref o_reader, .ref o_writer, .ref o_unchanged])), (o_tape, .inl (k 1, 400, .inl f_3))] := hD
  refine lv_aload_n hx hb dX6_putNumber_30 rfl (lv_at hl 1 rfl) ?_
  refine lv_dup hx hb dX6_putNumber_31 rfl ?_
  refine va_get (D := G) (ci := 6) (v := .int 8) (C := RX6) (T := TX6) (N := 16) hx hb hw inlX6 hown hK hP 0 rfl rfl 1 (by decide) (hw _ wd_7_12) (fun _ h9 => h9) rfl dX6_putNumber_32 ?_
  refine lv_iconst (v := 1) hx hb dX6_putNumber_35 (by decide) ?_
  refine lv_iadd hx hb dX6_putNumber_36 ?_
  refine topc (v := 9) (by decide) ?_
  refine va_put (D := G) (ci := 6) (v := .int 9) (ty := .int) (C := RX6) (T := TX6) (N := 16) hx hb hw inlX6 tyX6 tyX6_ok nmX6 hown hK hP hD hS 0 rfl rfl 1 (by decide) (hw _ wd_7_12) (fun _ h9 => h9) rfl (tyX6_ok 1 (by decide)) rfl rfl (Nat.le_of_ble_eq_true rfl) dX6_putNumber_37 (fun H locs hP hD hS => ?_)
  have hP : va_P G vwCl [(h0, .inr (6, [.ref o_tape, .int 9, .ref o_river, .ref o_spare, .ref o_state, .ref o_past, .int o_nextPast, .int o_acts, .ref o_shelfRivers, .ref o_shelfStates, .int o_kept, .ref o_today, .ref o_outlook, .ref o_reader, .ref o_writer, .ref o_unchanged])), (o_tape, .inl (k 1, 400, .inl f_3))] H := hP
  have hD : va_D A [(h0, .inr (6, [.ref o_tape, .int 9, .ref o_river, .ref o_spare, .ref o_state, .ref o_past, .int o_nextPast, .int o_acts, .ref o_shelfRivers, .ref o_shelfStates, .int o_kept, .ref o_today, .ref o_outlook, .ref o_reader, .ref o_writer, .ref o_unchanged])), (o_tape, .inl (k 1, 400, .inl f_3))] := hD
  refine lv_iinc (v := 16) (lv' := [(2, .int 16), (0, .ref h0), (1, .int a)]) hx hb dX6_putNumber_40 hl (k := 0) rfl (by decide) (by decide) rfl (fun ls hl => ?_)
  refine lv_goto (tgt := 3) hx hb dX6_putNumber_43 (by decide) ?_
  refine lv_iload_n hx hb dX6_putNumber_3 rfl (lv_at hl 0 rfl) ?_
  refine lv_if_lt (tgt := 46) hx hb dX6_putNumber_4 (by decide) (fun c_ => absurd c_ (by decide)) (fun _ => ?_)
  refine lv_aload_n hx hb dX6_putNumber_7 rfl (lv_at hl 1 rfl) ?_
  refine va_get (D := G) (ci := 6) (v := .int 9) (C := RX6) (T := TX6) (N := 16) hx hb hw inlX6 hown hK hP 0 rfl rfl 1 (by decide) (hw _ wd_7_12) (fun _ h9 => h9) rfl dX6_putNumber_8 ?_
  refine lv_sipush (v := 400) hx hb dX6_putNumber_11 (by decide) ?_
  refine lv_icmp_ge (tgt := 40) hx hb dX6_putNumber_14 (by decide) (fun c_ => absurd c_ (by decide)) (fun _ => ?_)
  refine lv_aload_n hx hb dX6_putNumber_17 rfl (lv_at hl 1 rfl) ?_
  refine va_get (D := G) (ci := 6) (v := .ref o_tape) (C := RX6) (T := TX6) (N := 16) hx hb hw inlX6 hown hK hP 0 rfl rfl 0 (by decide) (hw _ wd_1_13) (fun _ h9 => h9) rfl dX6_putNumber_18 ?_
  refine lv_aload_n hx hb dX6_putNumber_21 rfl (lv_at hl 1 rfl) ?_
  refine va_get (D := G) (ci := 6) (v := .int 9) (C := RX6) (T := TX6) (N := 16) hx hb hw inlX6 hown hK hP 0 rfl rfl 1 (by decide) (hw _ wd_7_12) (fun _ h9 => h9) rfl dX6_putNumber_22 ?_
  refine lv_iload_n hx hb dX6_putNumber_25 rfl (lv_at hl 2 rfl) ?_
  refine lv_iload_n hx hb dX6_putNumber_26 rfl (lv_at hl 0 rfl) ?_
  refine lv_iushr hx hb dX6_putNumber_27 rfl ?_
  refine lv_topi (fun z_4 ez_4 => ?_)
  refine lv_i2b hx hb dX6_putNumber_28 rfl ?_
  refine lv_topi (fun z_5 ez_5 => ?_)
  refine stB F hK hP hD hS 1 rfl (vin (by decide)) dX6_putNumber_29 (fun f_6 ef_6 H locs hP hD hS => ?_)
  have hP : va_P G vwCl [(h0, .inr (6, [.ref o_tape, .int 9, .ref o_river, .ref o_spare, .ref o_state, .ref o_past, .int o_nextPast, .int o_acts, .ref o_shelfRivers, .ref o_shelfStates, .int o_kept, .ref o_today, .ref o_outlook, .ref o_reader, .ref o_writer, .ref o_unchanged])), (o_tape, .inl (k 1, 400, .inl f_6))] H := hP
  have hD : va_D A [(h0, .inr (6, [.ref o_tape, .int 9, .ref o_river, .ref o_spare, .ref o_state, .ref o_past, .int o_nextPast, .int o_acts, .ref o_shelfRivers, .ref o_shelfStates, .int o_kept, .ref o_today, .ref o_outlook, .ref o_reader, .ref o_writer, .ref o_unchanged])), (o_tape, .inl (k 1, 400, .inl f_6))] := hD
  refine lv_aload_n hx hb dX6_putNumber_30 rfl (lv_at hl 1 rfl) ?_
  refine lv_dup hx hb dX6_putNumber_31 rfl ?_
  refine va_get (D := G) (ci := 6) (v := .int 9) (C := RX6) (T := TX6) (N := 16) hx hb hw inlX6 hown hK hP 0 rfl rfl 1 (by decide) (hw _ wd_7_12) (fun _ h9 => h9) rfl dX6_putNumber_32 ?_
  refine lv_iconst (v := 1) hx hb dX6_putNumber_35 (by decide) ?_
  refine lv_iadd hx hb dX6_putNumber_36 ?_
  refine topc (v := 10) (by decide) ?_
  refine va_put (D := G) (ci := 6) (v := .int 10) (ty := .int) (C := RX6) (T := TX6) (N := 16) hx hb hw inlX6 tyX6 tyX6_ok nmX6 hown hK hP hD hS 0 rfl rfl 1 (by decide) (hw _ wd_7_12) (fun _ h9 => h9) rfl (tyX6_ok 1 (by decide)) rfl rfl (Nat.le_of_ble_eq_true rfl) dX6_putNumber_37 (fun H locs hP hD hS => ?_)
  have hP : va_P G vwCl [(h0, .inr (6, [.ref o_tape, .int 10, .ref o_river, .ref o_spare, .ref o_state, .ref o_past, .int o_nextPast, .int o_acts, .ref o_shelfRivers, .ref o_shelfStates, .int o_kept, .ref o_today, .ref o_outlook, .ref o_reader, .ref o_writer, .ref o_unchanged])), (o_tape, .inl (k 1, 400, .inl f_6))] H := hP
  have hD : va_D A [(h0, .inr (6, [.ref o_tape, .int 10, .ref o_river, .ref o_spare, .ref o_state, .ref o_past, .int o_nextPast, .int o_acts, .ref o_shelfRivers, .ref o_shelfStates, .int o_kept, .ref o_today, .ref o_outlook, .ref o_reader, .ref o_writer, .ref o_unchanged])), (o_tape, .inl (k 1, 400, .inl f_6))] := hD
  refine lv_iinc (v := 8) (lv' := [(2, .int 8), (0, .ref h0), (1, .int a)]) hx hb dX6_putNumber_40 hl (k := 0) rfl (by decide) (by decide) rfl (fun ls hl => ?_)
  refine lv_goto (tgt := 3) hx hb dX6_putNumber_43 (by decide) ?_
  refine lv_iload_n hx hb dX6_putNumber_3 rfl (lv_at hl 0 rfl) ?_
  refine lv_if_lt (tgt := 46) hx hb dX6_putNumber_4 (by decide) (fun c_ => absurd c_ (by decide)) (fun _ => ?_)
  refine lv_aload_n hx hb dX6_putNumber_7 rfl (lv_at hl 1 rfl) ?_
  refine va_get (D := G) (ci := 6) (v := .int 10) (C := RX6) (T := TX6) (N := 16) hx hb hw inlX6 hown hK hP 0 rfl rfl 1 (by decide) (hw _ wd_7_12) (fun _ h9 => h9) rfl dX6_putNumber_8 ?_
  refine lv_sipush (v := 400) hx hb dX6_putNumber_11 (by decide) ?_
  refine lv_icmp_ge (tgt := 40) hx hb dX6_putNumber_14 (by decide) (fun c_ => absurd c_ (by decide)) (fun _ => ?_)
  refine lv_aload_n hx hb dX6_putNumber_17 rfl (lv_at hl 1 rfl) ?_
  refine va_get (D := G) (ci := 6) (v := .ref o_tape) (C := RX6) (T := TX6) (N := 16) hx hb hw inlX6 hown hK hP 0 rfl rfl 0 (by decide) (hw _ wd_1_13) (fun _ h9 => h9) rfl dX6_putNumber_18 ?_
  refine lv_aload_n hx hb dX6_putNumber_21 rfl (lv_at hl 1 rfl) ?_
  refine va_get (D := G) (ci := 6) (v := .int 10) (C := RX6) (T := TX6) (N := 16) hx hb hw inlX6 hown hK hP 0 rfl rfl 1 (by decide) (hw _ wd_7_12) (fun _ h9 => h9) rfl dX6_putNumber_22 ?_
  refine lv_iload_n hx hb dX6_putNumber_25 rfl (lv_at hl 2 rfl) ?_
  refine lv_iload_n hx hb dX6_putNumber_26 rfl (lv_at hl 0 rfl) ?_
  refine lv_iushr hx hb dX6_putNumber_27 rfl ?_
  refine lv_topi (fun z_7 ez_7 => ?_)
  refine lv_i2b hx hb dX6_putNumber_28 rfl ?_
  refine lv_topi (fun z_8 ez_8 => ?_)
  refine stB F hK hP hD hS 1 rfl (vin (by decide)) dX6_putNumber_29 (fun f_9 ef_9 H locs hP hD hS => ?_)
  have hP : va_P G vwCl [(h0, .inr (6, [.ref o_tape, .int 10, .ref o_river, .ref o_spare, .ref o_state, .ref o_past, .int o_nextPast, .int o_acts, .ref o_shelfRivers, .ref o_shelfStates, .int o_kept, .ref o_today, .ref o_outlook, .ref o_reader, .ref o_writer, .ref o_unchanged])), (o_tape, .inl (k 1, 400, .inl f_9))] H := hP
  have hD : va_D A [(h0, .inr (6, [.ref o_tape, .int 10, .ref o_river, .ref o_spare, .ref o_state, .ref o_past, .int o_nextPast, .int o_acts, .ref o_shelfRivers, .ref o_shelfStates, .int o_kept, .ref o_today, .ref o_outlook, .ref o_reader, .ref o_writer, .ref o_unchanged])), (o_tape, .inl (k 1, 400, .inl f_9))] := hD
  refine lv_aload_n hx hb dX6_putNumber_30 rfl (lv_at hl 1 rfl) ?_
  refine lv_dup hx hb dX6_putNumber_31 rfl ?_
  refine va_get (D := G) (ci := 6) (v := .int 10) (C := RX6) (T := TX6) (N := 16) hx hb hw inlX6 hown hK hP 0 rfl rfl 1 (by decide) (hw _ wd_7_12) (fun _ h9 => h9) rfl dX6_putNumber_32 ?_
  refine lv_iconst (v := 1) hx hb dX6_putNumber_35 (by decide) ?_
  refine lv_iadd hx hb dX6_putNumber_36 ?_
  refine topc (v := 11) (by decide) ?_
  refine va_put (D := G) (ci := 6) (v := .int 11) (ty := .int) (C := RX6) (T := TX6) (N := 16) hx hb hw inlX6 tyX6 tyX6_ok nmX6 hown hK hP hD hS 0 rfl rfl 1 (by decide) (hw _ wd_7_12) (fun _ h9 => h9) rfl (tyX6_ok 1 (by decide)) rfl rfl (Nat.le_of_ble_eq_true rfl) dX6_putNumber_37 (fun H locs hP hD hS => ?_)
  have hP : va_P G vwCl [(h0, .inr (6, [.ref o_tape, .int 11, .ref o_river, .ref o_spare, .ref o_state, .ref o_past, .int o_nextPast, .int o_acts, .ref o_shelfRivers, .ref o_shelfStates, .int o_kept, .ref o_today, .ref o_outlook, .ref o_reader, .ref o_writer, .ref o_unchanged])), (o_tape, .inl (k 1, 400, .inl f_9))] H := hP
  have hD : va_D A [(h0, .inr (6, [.ref o_tape, .int 11, .ref o_river, .ref o_spare, .ref o_state, .ref o_past, .int o_nextPast, .int o_acts, .ref o_shelfRivers, .ref o_shelfStates, .int o_kept, .ref o_today, .ref o_outlook, .ref o_reader, .ref o_writer, .ref o_unchanged])), (o_tape, .inl (k 1, 400, .inl f_9))] := hD
  refine lv_iinc (v := 0) (lv' := [(2, .int 0), (0, .ref h0), (1, .int a)]) hx hb dX6_putNumber_40 hl (k := 0) rfl (by decide) (by decide) rfl (fun ls hl => ?_)
  refine lv_goto (tgt := 3) hx hb dX6_putNumber_43 (by decide) ?_
  refine lv_iload_n hx hb dX6_putNumber_3 rfl (lv_at hl 0 rfl) ?_
  refine lv_if_lt (tgt := 46) hx hb dX6_putNumber_4 (by decide) (fun c_ => absurd c_ (by decide)) (fun _ => ?_)
  refine lv_aload_n hx hb dX6_putNumber_7 rfl (lv_at hl 1 rfl) ?_
  refine va_get (D := G) (ci := 6) (v := .int 11) (C := RX6) (T := TX6) (N := 16) hx hb hw inlX6 hown hK hP 0 rfl rfl 1 (by decide) (hw _ wd_7_12) (fun _ h9 => h9) rfl dX6_putNumber_8 ?_
  refine lv_sipush (v := 400) hx hb dX6_putNumber_11 (by decide) ?_
  refine lv_icmp_ge (tgt := 40) hx hb dX6_putNumber_14 (by decide) (fun c_ => absurd c_ (by decide)) (fun _ => ?_)
  refine lv_aload_n hx hb dX6_putNumber_17 rfl (lv_at hl 1 rfl) ?_
  refine va_get (D := G) (ci := 6) (v := .ref o_tape) (C := RX6) (T := TX6) (N := 16) hx hb hw inlX6 hown hK hP 0 rfl rfl 0 (by decide) (hw _ wd_1_13) (fun _ h9 => h9) rfl dX6_putNumber_18 ?_
  refine lv_aload_n hx hb dX6_putNumber_21 rfl (lv_at hl 1 rfl) ?_
  refine va_get (D := G) (ci := 6) (v := .int 11) (C := RX6) (T := TX6) (N := 16) hx hb hw inlX6 hown hK hP 0 rfl rfl 1 (by decide) (hw _ wd_7_12) (fun _ h9 => h9) rfl dX6_putNumber_22 ?_
  refine lv_iload_n hx hb dX6_putNumber_25 rfl (lv_at hl 2 rfl) ?_
  refine lv_iload_n hx hb dX6_putNumber_26 rfl (lv_at hl 0 rfl) ?_
  refine lv_iushr hx hb dX6_putNumber_27 rfl ?_
  refine lv_topi (fun z_10 ez_10 => ?_)
  refine lv_i2b hx hb dX6_putNumber_28 rfl ?_
  refine lv_topi (fun z_11 ez_11 => ?_)
  refine stB F hK hP hD hS 1 rfl (vin (by decide)) dX6_putNumber_29 (fun f_12 ef_12 H locs hP hD hS => ?_)
  have hP : va_P G vwCl [(h0, .inr (6, [.ref o_tape, .int 11, .ref o_river, .ref o_spare, .ref o_state, .ref o_past, .int o_nextPast, .int o_acts, .ref o_shelfRivers, .ref o_shelfStates, .int o_kept, .ref o_today, .ref o_outlook, .ref o_reader, .ref o_writer, .ref o_unchanged])), (o_tape, .inl (k 1, 400, .inl f_12))] H := hP
  have hD : va_D A [(h0, .inr (6, [.ref o_tape, .int 11, .ref o_river, .ref o_spare, .ref o_state, .ref o_past, .int o_nextPast, .int o_acts, .ref o_shelfRivers, .ref o_shelfStates, .int o_kept, .ref o_today, .ref o_outlook, .ref o_reader, .ref o_writer, .ref o_unchanged])), (o_tape, .inl (k 1, 400, .inl f_12))] := hD
  refine lv_aload_n hx hb dX6_putNumber_30 rfl (lv_at hl 1 rfl) ?_
  refine lv_dup hx hb dX6_putNumber_31 rfl ?_
  refine va_get (D := G) (ci := 6) (v := .int 11) (C := RX6) (T := TX6) (N := 16) hx hb hw inlX6 hown hK hP 0 rfl rfl 1 (by decide) (hw _ wd_7_12) (fun _ h9 => h9) rfl dX6_putNumber_32 ?_
  refine lv_iconst (v := 1) hx hb dX6_putNumber_35 (by decide) ?_
  refine lv_iadd hx hb dX6_putNumber_36 ?_
  refine topc (v := 12) (by decide) ?_
  refine va_put (D := G) (ci := 6) (v := .int 12) (ty := .int) (C := RX6) (T := TX6) (N := 16) hx hb hw inlX6 tyX6 tyX6_ok nmX6 hown hK hP hD hS 0 rfl rfl 1 (by decide) (hw _ wd_7_12) (fun _ h9 => h9) rfl (tyX6_ok 1 (by decide)) rfl rfl (Nat.le_of_ble_eq_true rfl) dX6_putNumber_37 (fun H locs hP hD hS => ?_)
  have hP : va_P G vwCl [(h0, .inr (6, [.ref o_tape, .int 12, .ref o_river, .ref o_spare, .ref o_state, .ref o_past, .int o_nextPast, .int o_acts, .ref o_shelfRivers, .ref o_shelfStates, .int o_kept, .ref o_today, .ref o_outlook, .ref o_reader, .ref o_writer, .ref o_unchanged])), (o_tape, .inl (k 1, 400, .inl f_12))] H := hP
  have hD : va_D A [(h0, .inr (6, [.ref o_tape, .int 12, .ref o_river, .ref o_spare, .ref o_state, .ref o_past, .int o_nextPast, .int o_acts, .ref o_shelfRivers, .ref o_shelfStates, .int o_kept, .ref o_today, .ref o_outlook, .ref o_reader, .ref o_writer, .ref o_unchanged])), (o_tape, .inl (k 1, 400, .inl f_12))] := hD
  refine lv_iinc (v := (-8)) (lv' := [(2, .int (-8)), (0, .ref h0), (1, .int a)]) hx hb dX6_putNumber_40 hl (k := 0) rfl (by decide) (by decide) rfl (fun ls hl => ?_)
  refine lv_goto (tgt := 3) hx hb dX6_putNumber_43 (by decide) ?_
  refine lv_iload_n hx hb dX6_putNumber_3 rfl (lv_at hl 0 rfl) ?_
  refine lv_if_lt (tgt := 46) hx hb dX6_putNumber_4 (by decide) (fun _ => ?_) (fun c_ => absurd (by decide) c_)
  exact exV (w := [(h0, .inr (6, [.ref o_tape, .int 12, .ref o_river, .ref o_spare, .ref o_state, .ref o_past, .int o_nextPast, .int o_acts, .ref o_shelfRivers, .ref o_shelfStates, .int o_kept, .ref o_today, .ref o_outlook, .ref o_reader, .ref o_writer, .ref o_unchanged])), (o_tape, .inl (k 1, 400, .inl f_12))]) F hP hD hS dX6_putNumber_46 [0, 1] (by decide) rfl rfl (⟨f_12, rfl⟩)
set_option maxHeartbeats 4000000 in
set_option maxRecDepth 100000 in
theorem c_X6_putNumber_12 (l : Launch) (G : va_G) (k : Nat → ClassId) (h0 : Nat) (o_tape : Nat) (o_river : Nat) (o_spare : Nat) (o_state : Nat) (o_past : Nat) (o_shelfRivers : Nat) (o_shelfStates : Nat) (o_today : Nat) (o_outlook : Nat) (o_reader : Nat) (o_writer : Nat) (o_unchanged : Nat) (o_nextPast : Int32) (o_acts : Int32) (o_kept : Int32) (f : Nat → Int32) (a : Int32) : CtV l G k yX6_putNumber cX6_putNumber 3 ({ frames := 1, cells := 0, slots := 0, locals := 40 }) [.ref h0, .int a] [(h0, .inr (6, [.ref o_tape, .int 12, .ref o_river, .ref o_spare, .ref o_state, .ref o_past, .int o_nextPast, .int o_acts, .ref o_shelfRivers, .ref o_shelfStates, .int o_kept, .ref o_today, .ref o_outlook, .ref o_reader, .ref o_writer, .ref o_unchanged])), (o_tape, .inl (k 1, 400, .inl f))] (fun w => ∃ g : Nat → Int32, w = [(h0, .inr (6, [.ref o_tape, .int 16, .ref o_river, .ref o_spare, .ref o_state, .ref o_past, .int o_nextPast, .int o_acts, .ref o_shelfRivers, .ref o_shelfStates, .int o_kept, .ref o_today, .ref o_outlook, .ref o_reader, .ref o_writer, .ref o_unchanged])), (o_tape, .inl (k 1, 400, .inl g))]) := by
  refine enV (by decide) (Nat.le_of_ble_eq_true rfl) ?_
  intro pg_ ev_ s mi_ below_ meth cd_ ls A F hK hN hA hP hD hS hl
  obtain ⟨hx, hb, hr, hml, hown, hlk, hw, hin⟩ := id F
  have hown : s.vm.findClass RX6 = some mi_.cls := hown
  have hl : lv_has ls 3 [(0, .ref h0), (1, .int a)] := hl
  refine lv_bipush (v := 24) hx hb dX6_putNumber_0 (by decide) ?_
  refine lv_istore_n (lv' := [(2, .int 24), (0, .ref h0), (1, .int a)]) hx hb dX6_putNumber_2 rfl hl (by decide) rfl (fun ls hl => ?_)
  refine lv_iload_n hx hb dX6_putNumber_3 rfl (lv_at hl 0 rfl) ?_
  refine lv_if_lt (tgt := 46) hx hb dX6_putNumber_4 (by decide) (fun c_ => absurd c_ (by decide)) (fun _ => ?_)
  refine lv_aload_n hx hb dX6_putNumber_7 rfl (lv_at hl 1 rfl) ?_
  refine va_get (D := G) (ci := 6) (v := .int 12) (C := RX6) (T := TX6) (N := 16) hx hb hw inlX6 hown hK hP 0 rfl rfl 1 (by decide) (hw _ wd_7_12) (fun _ h9 => h9) rfl dX6_putNumber_8 ?_
  refine lv_sipush (v := 400) hx hb dX6_putNumber_11 (by decide) ?_
  refine lv_icmp_ge (tgt := 40) hx hb dX6_putNumber_14 (by decide) (fun c_ => absurd c_ (by decide)) (fun _ => ?_)
  refine lv_aload_n hx hb dX6_putNumber_17 rfl (lv_at hl 1 rfl) ?_
  refine va_get (D := G) (ci := 6) (v := .ref o_tape) (C := RX6) (T := TX6) (N := 16) hx hb hw inlX6 hown hK hP 0 rfl rfl 0 (by decide) (hw _ wd_1_13) (fun _ h9 => h9) rfl dX6_putNumber_18 ?_
  refine lv_aload_n hx hb dX6_putNumber_21 rfl (lv_at hl 1 rfl) ?_
  refine va_get (D := G) (ci := 6) (v := .int 12) (C := RX6) (T := TX6) (N := 16) hx hb hw inlX6 hown hK hP 0 rfl rfl 1 (by decide) (hw _ wd_7_12) (fun _ h9 => h9) rfl dX6_putNumber_22 ?_
  refine lv_iload_n hx hb dX6_putNumber_25 rfl (lv_at hl 2 rfl) ?_
  refine lv_iload_n hx hb dX6_putNumber_26 rfl (lv_at hl 0 rfl) ?_
  refine lv_iushr hx hb dX6_putNumber_27 rfl ?_
  refine lv_topi (fun z_1 ez_1 => ?_)
  refine lv_i2b hx hb dX6_putNumber_28 rfl ?_
  refine lv_topi (fun z_2 ez_2 => ?_)
  refine stB F hK hP hD hS 1 rfl (vin (by decide)) dX6_putNumber_29 (fun f_3 ef_3 H locs hP hD hS => ?_)
  have hP : va_P G vwCl [(h0, .inr (6, [.ref o_tape, .int 12, .ref o_river, .ref o_spare, .ref o_state, .ref o_past, .int o_nextPast, .int o_acts, .ref o_shelfRivers, .ref o_shelfStates, .int o_kept, .ref o_today, .ref o_outlook, .ref o_reader, .ref o_writer, .ref o_unchanged])), (o_tape, .inl (k 1, 400, .inl f_3))] H := hP
  have hD : va_D A [(h0, .inr (6, [.ref o_tape, .int 12, .ref o_river, .ref o_spare, .ref o_state, .ref o_past, .int o_nextPast, .int o_acts, .ref o_shelfRivers, .ref o_shelfStates, .int o_kept, .ref o_today, .ref o_outlook, .ref o_reader, .ref o_writer, .ref o_unchanged])), (o_tape, .inl (k 1, 400, .inl f_3))] := hD
  refine lv_aload_n hx hb dX6_putNumber_30 rfl (lv_at hl 1 rfl) ?_
  refine lv_dup hx hb dX6_putNumber_31 rfl ?_
  refine va_get (D := G) (ci := 6) (v := .int 12) (C := RX6) (T := TX6) (N := 16) hx hb hw inlX6 hown hK hP 0 rfl rfl 1 (by decide) (hw _ wd_7_12) (fun _ h9 => h9) rfl dX6_putNumber_32 ?_
  refine lv_iconst (v := 1) hx hb dX6_putNumber_35 (by decide) ?_
  refine lv_iadd hx hb dX6_putNumber_36 ?_
  refine topc (v := 13) (by decide) ?_
  refine va_put (D := G) (ci := 6) (v := .int 13) (ty := .int) (C := RX6) (T := TX6) (N := 16) hx hb hw inlX6 tyX6 tyX6_ok nmX6 hown hK hP hD hS 0 rfl rfl 1 (by decide) (hw _ wd_7_12) (fun _ h9 => h9) rfl (tyX6_ok 1 (by decide)) rfl rfl (Nat.le_of_ble_eq_true rfl) dX6_putNumber_37 (fun H locs hP hD hS => ?_)
  have hP : va_P G vwCl [(h0, .inr (6, [.ref o_tape, .int 13, .ref o_river, .ref o_spare, .ref o_state, .ref o_past, .int o_nextPast, .int o_acts, .ref o_shelfRivers, .ref o_shelfStates, .int o_kept, .ref o_today, .ref o_outlook, .ref o_reader, .ref o_writer, .ref o_unchanged])), (o_tape, .inl (k 1, 400, .inl f_3))] H := hP
  have hD : va_D A [(h0, .inr (6, [.ref o_tape, .int 13, .ref o_river, .ref o_spare, .ref o_state, .ref o_past, .int o_nextPast, .int o_acts, .ref o_shelfRivers, .ref o_shelfStates, .int o_kept, .ref o_today, .ref o_outlook, .ref o_reader, .ref o_writer, .ref o_unchanged])), (o_tape, .inl (k 1, 400, .inl f_3))] := hD
  refine lv_iinc (v := 16) (lv' := [(2, .int 16), (0, .ref h0), (1, .int a)]) hx hb dX6_putNumber_40 hl (k := 0) rfl (by decide) (by decide) rfl (fun ls hl => ?_)
  refine lv_goto (tgt := 3) hx hb dX6_putNumber_43 (by decide) ?_
  refine lv_iload_n hx hb dX6_putNumber_3 rfl (lv_at hl 0 rfl) ?_
  refine lv_if_lt (tgt := 46) hx hb dX6_putNumber_4 (by decide) (fun c_ => absurd c_ (by decide)) (fun _ => ?_)
  refine lv_aload_n hx hb dX6_putNumber_7 rfl (lv_at hl 1 rfl) ?_
  refine va_get (D := G) (ci := 6) (v := .int 13) (C := RX6) (T := TX6) (N := 16) hx hb hw inlX6 hown hK hP 0 rfl rfl 1 (by decide) (hw _ wd_7_12) (fun _ h9 => h9) rfl dX6_putNumber_8 ?_
  refine lv_sipush (v := 400) hx hb dX6_putNumber_11 (by decide) ?_
  refine lv_icmp_ge (tgt := 40) hx hb dX6_putNumber_14 (by decide) (fun c_ => absurd c_ (by decide)) (fun _ => ?_)
  refine lv_aload_n hx hb dX6_putNumber_17 rfl (lv_at hl 1 rfl) ?_
  refine va_get (D := G) (ci := 6) (v := .ref o_tape) (C := RX6) (T := TX6) (N := 16) hx hb hw inlX6 hown hK hP 0 rfl rfl 0 (by decide) (hw _ wd_1_13) (fun _ h9 => h9) rfl dX6_putNumber_18 ?_
  refine lv_aload_n hx hb dX6_putNumber_21 rfl (lv_at hl 1 rfl) ?_
  refine va_get (D := G) (ci := 6) (v := .int 13) (C := RX6) (T := TX6) (N := 16) hx hb hw inlX6 hown hK hP 0 rfl rfl 1 (by decide) (hw _ wd_7_12) (fun _ h9 => h9) rfl dX6_putNumber_22 ?_
  refine lv_iload_n hx hb dX6_putNumber_25 rfl (lv_at hl 2 rfl) ?_
  refine lv_iload_n hx hb dX6_putNumber_26 rfl (lv_at hl 0 rfl) ?_
  refine lv_iushr hx hb dX6_putNumber_27 rfl ?_
  refine lv_topi (fun z_4 ez_4 => ?_)
  refine lv_i2b hx hb dX6_putNumber_28 rfl ?_
  refine lv_topi (fun z_5 ez_5 => ?_)
  refine stB F hK hP hD hS 1 rfl (vin (by decide)) dX6_putNumber_29 (fun f_6 ef_6 H locs hP hD hS => ?_)
  have hP : va_P G vwCl [(h0, .inr (6, [.ref o_tape, .int 13, .ref o_river, .ref o_spare, .ref o_state, .ref o_past, .int o_nextPast, .int o_acts, .ref o_shelfRivers, .ref o_shelfStates, .int o_kept, .ref o_today, .ref o_outlook, .ref o_reader, .ref o_writer, .ref o_unchanged])), (o_tape, .inl (k 1, 400, .inl f_6))] H := hP
  have hD : va_D A [(h0, .inr (6, [.ref o_tape, .int 13, .ref o_river, .ref o_spare, .ref o_state, .ref o_past, .int o_nextPast, .int o_acts, .ref o_shelfRivers, .ref o_shelfStates, .int o_kept, .ref o_today, .ref o_outlook, .ref o_reader, .ref o_writer, .ref o_unchanged])), (o_tape, .inl (k 1, 400, .inl f_6))] := hD
  refine lv_aload_n hx hb dX6_putNumber_30 rfl (lv_at hl 1 rfl) ?_
  refine lv_dup hx hb dX6_putNumber_31 rfl ?_
  refine va_get (D := G) (ci := 6) (v := .int 13) (C := RX6) (T := TX6) (N := 16) hx hb hw inlX6 hown hK hP 0 rfl rfl 1 (by decide) (hw _ wd_7_12) (fun _ h9 => h9) rfl dX6_putNumber_32 ?_
  refine lv_iconst (v := 1) hx hb dX6_putNumber_35 (by decide) ?_
  refine lv_iadd hx hb dX6_putNumber_36 ?_
  refine topc (v := 14) (by decide) ?_
  refine va_put (D := G) (ci := 6) (v := .int 14) (ty := .int) (C := RX6) (T := TX6) (N := 16) hx hb hw inlX6 tyX6 tyX6_ok nmX6 hown hK hP hD hS 0 rfl rfl 1 (by decide) (hw _ wd_7_12) (fun _ h9 => h9) rfl (tyX6_ok 1 (by decide)) rfl rfl (Nat.le_of_ble_eq_true rfl) dX6_putNumber_37 (fun H locs hP hD hS => ?_)
  have hP : va_P G vwCl [(h0, .inr (6, [.ref o_tape, .int 14, .ref o_river, .ref o_spare, .ref o_state, .ref o_past, .int o_nextPast, .int o_acts, .ref o_shelfRivers, .ref o_shelfStates, .int o_kept, .ref o_today, .ref o_outlook, .ref o_reader, .ref o_writer, .ref o_unchanged])), (o_tape, .inl (k 1, 400, .inl f_6))] H := hP
  have hD : va_D A [(h0, .inr (6, [.ref o_tape, .int 14, .ref o_river, .ref o_spare, .ref o_state, .ref o_past, .int o_nextPast, .int o_acts, .ref o_shelfRivers, .ref o_shelfStates, .int o_kept, .ref o_today, .ref o_outlook, .ref o_reader, .ref o_writer, .ref o_unchanged])), (o_tape, .inl (k 1, 400, .inl f_6))] := hD
  refine lv_iinc (v := 8) (lv' := [(2, .int 8), (0, .ref h0), (1, .int a)]) hx hb dX6_putNumber_40 hl (k := 0) rfl (by decide) (by decide) rfl (fun ls hl => ?_)
  refine lv_goto (tgt := 3) hx hb dX6_putNumber_43 (by decide) ?_
  refine lv_iload_n hx hb dX6_putNumber_3 rfl (lv_at hl 0 rfl) ?_
  refine lv_if_lt (tgt := 46) hx hb dX6_putNumber_4 (by decide) (fun c_ => absurd c_ (by decide)) (fun _ => ?_)
  refine lv_aload_n hx hb dX6_putNumber_7 rfl (lv_at hl 1 rfl) ?_
  refine va_get (D := G) (ci := 6) (v := .int 14) (C := RX6) (T := TX6) (N := 16) hx hb hw inlX6 hown hK hP 0 rfl rfl 1 (by decide) (hw _ wd_7_12) (fun _ h9 => h9) rfl dX6_putNumber_8 ?_
  refine lv_sipush (v := 400) hx hb dX6_putNumber_11 (by decide) ?_
  refine lv_icmp_ge (tgt := 40) hx hb dX6_putNumber_14 (by decide) (fun c_ => absurd c_ (by decide)) (fun _ => ?_)
  refine lv_aload_n hx hb dX6_putNumber_17 rfl (lv_at hl 1 rfl) ?_
  refine va_get (D := G) (ci := 6) (v := .ref o_tape) (C := RX6) (T := TX6) (N := 16) hx hb hw inlX6 hown hK hP 0 rfl rfl 0 (by decide) (hw _ wd_1_13) (fun _ h9 => h9) rfl dX6_putNumber_18 ?_
  refine lv_aload_n hx hb dX6_putNumber_21 rfl (lv_at hl 1 rfl) ?_
  refine va_get (D := G) (ci := 6) (v := .int 14) (C := RX6) (T := TX6) (N := 16) hx hb hw inlX6 hown hK hP 0 rfl rfl 1 (by decide) (hw _ wd_7_12) (fun _ h9 => h9) rfl dX6_putNumber_22 ?_
  refine lv_iload_n hx hb dX6_putNumber_25 rfl (lv_at hl 2 rfl) ?_
  refine lv_iload_n hx hb dX6_putNumber_26 rfl (lv_at hl 0 rfl) ?_
  refine lv_iushr hx hb dX6_putNumber_27 rfl ?_
  refine lv_topi (fun z_7 ez_7 => ?_)
  refine lv_i2b hx hb dX6_putNumber_28 rfl ?_
  refine lv_topi (fun z_8 ez_8 => ?_)
  refine stB F hK hP hD hS 1 rfl (vin (by decide)) dX6_putNumber_29 (fun f_9 ef_9 H locs hP hD hS => ?_)
  have hP : va_P G vwCl [(h0, .inr (6, [.ref o_tape, .int 14, .ref o_river, .ref o_spare, .ref o_state, .ref o_past, .int o_nextPast, .int o_acts, .ref o_shelfRivers, .ref o_shelfStates, .int o_kept, .ref o_today, .ref o_outlook, .ref o_reader, .ref o_writer, .ref o_unchanged])), (o_tape, .inl (k 1, 400, .inl f_9))] H := hP
  have hD : va_D A [(h0, .inr (6, [.ref o_tape, .int 14, .ref o_river, .ref o_spare, .ref o_state, .ref o_past, .int o_nextPast, .int o_acts, .ref o_shelfRivers, .ref o_shelfStates, .int o_kept, .ref o_today, .ref o_outlook, .ref o_reader, .ref o_writer, .ref o_unchanged])), (o_tape, .inl (k 1, 400, .inl f_9))] := hD
  refine lv_aload_n hx hb dX6_putNumber_30 rfl (lv_at hl 1 rfl) ?_
  refine lv_dup hx hb dX6_putNumber_31 rfl ?_
  refine va_get (D := G) (ci := 6) (v := .int 14) (C := RX6) (T := TX6) (N := 16) hx hb hw inlX6 hown hK hP 0 rfl rfl 1 (by decide) (hw _ wd_7_12) (fun _ h9 => h9) rfl dX6_putNumber_32 ?_
  refine lv_iconst (v := 1) hx hb dX6_putNumber_35 (by decide) ?_
  refine lv_iadd hx hb dX6_putNumber_36 ?_
  refine topc (v := 15) (by decide) ?_
  refine va_put (D := G) (ci := 6) (v := .int 15) (ty := .int) (C := RX6) (T := TX6) (N := 16) hx hb hw inlX6 tyX6 tyX6_ok nmX6 hown hK hP hD hS 0 rfl rfl 1 (by decide) (hw _ wd_7_12) (fun _ h9 => h9) rfl (tyX6_ok 1 (by decide)) rfl rfl (Nat.le_of_ble_eq_true rfl) dX6_putNumber_37 (fun H locs hP hD hS => ?_)
  have hP : va_P G vwCl [(h0, .inr (6, [.ref o_tape, .int 15, .ref o_river, .ref o_spare, .ref o_state, .ref o_past, .int o_nextPast, .int o_acts, .ref o_shelfRivers, .ref o_shelfStates, .int o_kept, .ref o_today, .ref o_outlook, .ref o_reader, .ref o_writer, .ref o_unchanged])), (o_tape, .inl (k 1, 400, .inl f_9))] H := hP
  have hD : va_D A [(h0, .inr (6, [.ref o_tape, .int 15, .ref o_river, .ref o_spare, .ref o_state, .ref o_past, .int o_nextPast, .int o_acts, .ref o_shelfRivers, .ref o_shelfStates, .int o_kept, .ref o_today, .ref o_outlook, .ref o_reader, .ref o_writer, .ref o_unchanged])), (o_tape, .inl (k 1, 400, .inl f_9))] := hD
  refine lv_iinc (v := 0) (lv' := [(2, .int 0), (0, .ref h0), (1, .int a)]) hx hb dX6_putNumber_40 hl (k := 0) rfl (by decide) (by decide) rfl (fun ls hl => ?_)
  refine lv_goto (tgt := 3) hx hb dX6_putNumber_43 (by decide) ?_
  refine lv_iload_n hx hb dX6_putNumber_3 rfl (lv_at hl 0 rfl) ?_
  refine lv_if_lt (tgt := 46) hx hb dX6_putNumber_4 (by decide) (fun c_ => absurd c_ (by decide)) (fun _ => ?_)
  refine lv_aload_n hx hb dX6_putNumber_7 rfl (lv_at hl 1 rfl) ?_
  refine va_get (D := G) (ci := 6) (v := .int 15) (C := RX6) (T := TX6) (N := 16) hx hb hw inlX6 hown hK hP 0 rfl rfl 1 (by decide) (hw _ wd_7_12) (fun _ h9 => h9) rfl dX6_putNumber_8 ?_
  refine lv_sipush (v := 400) hx hb dX6_putNumber_11 (by decide) ?_
  refine lv_icmp_ge (tgt := 40) hx hb dX6_putNumber_14 (by decide) (fun c_ => absurd c_ (by decide)) (fun _ => ?_)
  refine lv_aload_n hx hb dX6_putNumber_17 rfl (lv_at hl 1 rfl) ?_
  refine va_get (D := G) (ci := 6) (v := .ref o_tape) (C := RX6) (T := TX6) (N := 16) hx hb hw inlX6 hown hK hP 0 rfl rfl 0 (by decide) (hw _ wd_1_13) (fun _ h9 => h9) rfl dX6_putNumber_18 ?_
  refine lv_aload_n hx hb dX6_putNumber_21 rfl (lv_at hl 1 rfl) ?_
  refine va_get (D := G) (ci := 6) (v := .int 15) (C := RX6) (T := TX6) (N := 16) hx hb hw inlX6 hown hK hP 0 rfl rfl 1 (by decide) (hw _ wd_7_12) (fun _ h9 => h9) rfl dX6_putNumber_22 ?_
  refine lv_iload_n hx hb dX6_putNumber_25 rfl (lv_at hl 2 rfl) ?_
  refine lv_iload_n hx hb dX6_putNumber_26 rfl (lv_at hl 0 rfl) ?_
  refine lv_iushr hx hb dX6_putNumber_27 rfl ?_
  refine lv_topi (fun z_10 ez_10 => ?_)
  refine lv_i2b hx hb dX6_putNumber_28 rfl ?_
  refine lv_topi (fun z_11 ez_11 => ?_)
  refine stB F hK hP hD hS 1 rfl (vin (by decide)) dX6_putNumber_29 (fun f_12 ef_12 H locs hP hD hS => ?_)
  have hP : va_P G vwCl [(h0, .inr (6, [.ref o_tape, .int 15, .ref o_river, .ref o_spare, .ref o_state, .ref o_past, .int o_nextPast, .int o_acts, .ref o_shelfRivers, .ref o_shelfStates, .int o_kept, .ref o_today, .ref o_outlook, .ref o_reader, .ref o_writer, .ref o_unchanged])), (o_tape, .inl (k 1, 400, .inl f_12))] H := hP
  have hD : va_D A [(h0, .inr (6, [.ref o_tape, .int 15, .ref o_river, .ref o_spare, .ref o_state, .ref o_past, .int o_nextPast, .int o_acts, .ref o_shelfRivers, .ref o_shelfStates, .int o_kept, .ref o_today, .ref o_outlook, .ref o_reader, .ref o_writer, .ref o_unchanged])), (o_tape, .inl (k 1, 400, .inl f_12))] := hD
  refine lv_aload_n hx hb dX6_putNumber_30 rfl (lv_at hl 1 rfl) ?_
  refine lv_dup hx hb dX6_putNumber_31 rfl ?_
  refine va_get (D := G) (ci := 6) (v := .int 15) (C := RX6) (T := TX6) (N := 16) hx hb hw inlX6 hown hK hP 0 rfl rfl 1 (by decide) (hw _ wd_7_12) (fun _ h9 => h9) rfl dX6_putNumber_32 ?_
  refine lv_iconst (v := 1) hx hb dX6_putNumber_35 (by decide) ?_
  refine lv_iadd hx hb dX6_putNumber_36 ?_
  refine topc (v := 16) (by decide) ?_
  refine va_put (D := G) (ci := 6) (v := .int 16) (ty := .int) (C := RX6) (T := TX6) (N := 16) hx hb hw inlX6 tyX6 tyX6_ok nmX6 hown hK hP hD hS 0 rfl rfl 1 (by decide) (hw _ wd_7_12) (fun _ h9 => h9) rfl (tyX6_ok 1 (by decide)) rfl rfl (Nat.le_of_ble_eq_true rfl) dX6_putNumber_37 (fun H locs hP hD hS => ?_)
  have hP : va_P G vwCl [(h0, .inr (6, [.ref o_tape, .int 16, .ref o_river, .ref o_spare, .ref o_state, .ref o_past, .int o_nextPast, .int o_acts, .ref o_shelfRivers, .ref o_shelfStates, .int o_kept, .ref o_today, .ref o_outlook, .ref o_reader, .ref o_writer, .ref o_unchanged])), (o_tape, .inl (k 1, 400, .inl f_12))] H := hP
  have hD : va_D A [(h0, .inr (6, [.ref o_tape, .int 16, .ref o_river, .ref o_spare, .ref o_state, .ref o_past, .int o_nextPast, .int o_acts, .ref o_shelfRivers, .ref o_shelfStates, .int o_kept, .ref o_today, .ref o_outlook, .ref o_reader, .ref o_writer, .ref o_unchanged])), (o_tape, .inl (k 1, 400, .inl f_12))] := hD
  refine lv_iinc (v := (-8)) (lv' := [(2, .int (-8)), (0, .ref h0), (1, .int a)]) hx hb dX6_putNumber_40 hl (k := 0) rfl (by decide) (by decide) rfl (fun ls hl => ?_)
  refine lv_goto (tgt := 3) hx hb dX6_putNumber_43 (by decide) ?_
  refine lv_iload_n hx hb dX6_putNumber_3 rfl (lv_at hl 0 rfl) ?_
  refine lv_if_lt (tgt := 46) hx hb dX6_putNumber_4 (by decide) (fun _ => ?_) (fun c_ => absurd (by decide) c_)
  exact exV (w := [(h0, .inr (6, [.ref o_tape, .int 16, .ref o_river, .ref o_spare, .ref o_state, .ref o_past, .int o_nextPast, .int o_acts, .ref o_shelfRivers, .ref o_shelfStates, .int o_kept, .ref o_today, .ref o_outlook, .ref o_reader, .ref o_writer, .ref o_unchanged])), (o_tape, .inl (k 1, 400, .inl f_12))]) F hP hD hS dX6_putNumber_46 [0, 1] (by decide) rfl rfl (⟨f_12, rfl⟩)
set_option maxHeartbeats 4000000 in
set_option maxRecDepth 100000 in
theorem c_X6_putNumber_16 (l : Launch) (G : va_G) (k : Nat → ClassId) (h0 : Nat) (o_tape : Nat) (o_river : Nat) (o_spare : Nat) (o_state : Nat) (o_past : Nat) (o_shelfRivers : Nat) (o_shelfStates : Nat) (o_today : Nat) (o_outlook : Nat) (o_reader : Nat) (o_writer : Nat) (o_unchanged : Nat) (o_nextPast : Int32) (o_acts : Int32) (o_kept : Int32) (f : Nat → Int32) (a : Int32) : CtV l G k yX6_putNumber cX6_putNumber 3 ({ frames := 1, cells := 0, slots := 0, locals := 40 }) [.ref h0, .int a] [(h0, .inr (6, [.ref o_tape, .int 16, .ref o_river, .ref o_spare, .ref o_state, .ref o_past, .int o_nextPast, .int o_acts, .ref o_shelfRivers, .ref o_shelfStates, .int o_kept, .ref o_today, .ref o_outlook, .ref o_reader, .ref o_writer, .ref o_unchanged])), (o_tape, .inl (k 1, 400, .inl f))] (fun w => ∃ g : Nat → Int32, w = [(h0, .inr (6, [.ref o_tape, .int 20, .ref o_river, .ref o_spare, .ref o_state, .ref o_past, .int o_nextPast, .int o_acts, .ref o_shelfRivers, .ref o_shelfStates, .int o_kept, .ref o_today, .ref o_outlook, .ref o_reader, .ref o_writer, .ref o_unchanged])), (o_tape, .inl (k 1, 400, .inl g))]) := by
  refine enV (by decide) (Nat.le_of_ble_eq_true rfl) ?_
  intro pg_ ev_ s mi_ below_ meth cd_ ls A F hK hN hA hP hD hS hl
  obtain ⟨hx, hb, hr, hml, hown, hlk, hw, hin⟩ := id F
  have hown : s.vm.findClass RX6 = some mi_.cls := hown
  have hl : lv_has ls 3 [(0, .ref h0), (1, .int a)] := hl
  refine lv_bipush (v := 24) hx hb dX6_putNumber_0 (by decide) ?_
  refine lv_istore_n (lv' := [(2, .int 24), (0, .ref h0), (1, .int a)]) hx hb dX6_putNumber_2 rfl hl (by decide) rfl (fun ls hl => ?_)
  refine lv_iload_n hx hb dX6_putNumber_3 rfl (lv_at hl 0 rfl) ?_
  refine lv_if_lt (tgt := 46) hx hb dX6_putNumber_4 (by decide) (fun c_ => absurd c_ (by decide)) (fun _ => ?_)
  refine lv_aload_n hx hb dX6_putNumber_7 rfl (lv_at hl 1 rfl) ?_
  refine va_get (D := G) (ci := 6) (v := .int 16) (C := RX6) (T := TX6) (N := 16) hx hb hw inlX6 hown hK hP 0 rfl rfl 1 (by decide) (hw _ wd_7_12) (fun _ h9 => h9) rfl dX6_putNumber_8 ?_
  refine lv_sipush (v := 400) hx hb dX6_putNumber_11 (by decide) ?_
  refine lv_icmp_ge (tgt := 40) hx hb dX6_putNumber_14 (by decide) (fun c_ => absurd c_ (by decide)) (fun _ => ?_)
  refine lv_aload_n hx hb dX6_putNumber_17 rfl (lv_at hl 1 rfl) ?_
  refine va_get (D := G) (ci := 6) (v := .ref o_tape) (C := RX6) (T := TX6) (N := 16) hx hb hw inlX6 hown hK hP 0 rfl rfl 0 (by decide) (hw _ wd_1_13) (fun _ h9 => h9) rfl dX6_putNumber_18 ?_
  refine lv_aload_n hx hb dX6_putNumber_21 rfl (lv_at hl 1 rfl) ?_
  refine va_get (D := G) (ci := 6) (v := .int 16) (C := RX6) (T := TX6) (N := 16) hx hb hw inlX6 hown hK hP 0 rfl rfl 1 (by decide) (hw _ wd_7_12) (fun _ h9 => h9) rfl dX6_putNumber_22 ?_
  refine lv_iload_n hx hb dX6_putNumber_25 rfl (lv_at hl 2 rfl) ?_
  refine lv_iload_n hx hb dX6_putNumber_26 rfl (lv_at hl 0 rfl) ?_
  refine lv_iushr hx hb dX6_putNumber_27 rfl ?_
  refine lv_topi (fun z_1 ez_1 => ?_)
  refine lv_i2b hx hb dX6_putNumber_28 rfl ?_
  refine lv_topi (fun z_2 ez_2 => ?_)
  refine stB F hK hP hD hS 1 rfl (vin (by decide)) dX6_putNumber_29 (fun f_3 ef_3 H locs hP hD hS => ?_)
  have hP : va_P G vwCl [(h0, .inr (6, [.ref o_tape, .int 16, .ref o_river, .ref o_spare, .ref o_state, .ref o_past, .int o_nextPast, .int o_acts, .ref o_shelfRivers, .ref o_shelfStates, .int o_kept, .ref o_today, .ref o_outlook, .ref o_reader, .ref o_writer, .ref o_unchanged])), (o_tape, .inl (k 1, 400, .inl f_3))] H := hP
  have hD : va_D A [(h0, .inr (6, [.ref o_tape, .int 16, .ref o_river, .ref o_spare, .ref o_state, .ref o_past, .int o_nextPast, .int o_acts, .ref o_shelfRivers, .ref o_shelfStates, .int o_kept, .ref o_today, .ref o_outlook, .ref o_reader, .ref o_writer, .ref o_unchanged])), (o_tape, .inl (k 1, 400, .inl f_3))] := hD
  refine lv_aload_n hx hb dX6_putNumber_30 rfl (lv_at hl 1 rfl) ?_
  refine lv_dup hx hb dX6_putNumber_31 rfl ?_
  refine va_get (D := G) (ci := 6) (v := .int 16) (C := RX6) (T := TX6) (N := 16) hx hb hw inlX6 hown hK hP 0 rfl rfl 1 (by decide) (hw _ wd_7_12) (fun _ h9 => h9) rfl dX6_putNumber_32 ?_
  refine lv_iconst (v := 1) hx hb dX6_putNumber_35 (by decide) ?_
  refine lv_iadd hx hb dX6_putNumber_36 ?_
  refine topc (v := 17) (by decide) ?_
  refine va_put (D := G) (ci := 6) (v := .int 17) (ty := .int) (C := RX6) (T := TX6) (N := 16) hx hb hw inlX6 tyX6 tyX6_ok nmX6 hown hK hP hD hS 0 rfl rfl 1 (by decide) (hw _ wd_7_12) (fun _ h9 => h9) rfl (tyX6_ok 1 (by decide)) rfl rfl (Nat.le_of_ble_eq_true rfl) dX6_putNumber_37 (fun H locs hP hD hS => ?_)
  have hP : va_P G vwCl [(h0, .inr (6, [.ref o_tape, .int 17, .ref o_river, .ref o_spare, .ref o_state, .ref o_past, .int o_nextPast, .int o_acts, .ref o_shelfRivers, .ref o_shelfStates, .int o_kept, .ref o_today, .ref o_outlook, .ref o_reader, .ref o_writer, .ref o_unchanged])), (o_tape, .inl (k 1, 400, .inl f_3))] H := hP
  have hD : va_D A [(h0, .inr (6, [.ref o_tape, .int 17, .ref o_river, .ref o_spare, .ref o_state, .ref o_past, .int o_nextPast, .int o_acts, .ref o_shelfRivers, .ref o_shelfStates, .int o_kept, .ref o_today, .ref o_outlook, .ref o_reader, .ref o_writer, .ref o_unchanged])), (o_tape, .inl (k 1, 400, .inl f_3))] := hD
  refine lv_iinc (v := 16) (lv' := [(2, .int 16), (0, .ref h0), (1, .int a)]) hx hb dX6_putNumber_40 hl (k := 0) rfl (by decide) (by decide) rfl (fun ls hl => ?_)
  refine lv_goto (tgt := 3) hx hb dX6_putNumber_43 (by decide) ?_
  refine lv_iload_n hx hb dX6_putNumber_3 rfl (lv_at hl 0 rfl) ?_
  refine lv_if_lt (tgt := 46) hx hb dX6_putNumber_4 (by decide) (fun c_ => absurd c_ (by decide)) (fun _ => ?_)
  refine lv_aload_n hx hb dX6_putNumber_7 rfl (lv_at hl 1 rfl) ?_
  refine va_get (D := G) (ci := 6) (v := .int 17) (C := RX6) (T := TX6) (N := 16) hx hb hw inlX6 hown hK hP 0 rfl rfl 1 (by decide) (hw _ wd_7_12) (fun _ h9 => h9) rfl dX6_putNumber_8 ?_
  refine lv_sipush (v := 400) hx hb dX6_putNumber_11 (by decide) ?_
  refine lv_icmp_ge (tgt := 40) hx hb dX6_putNumber_14 (by decide) (fun c_ => absurd c_ (by decide)) (fun _ => ?_)
  refine lv_aload_n hx hb dX6_putNumber_17 rfl (lv_at hl 1 rfl) ?_
  refine va_get (D := G) (ci := 6) (v := .ref o_tape) (C := RX6) (T := TX6) (N := 16) hx hb hw inlX6 hown hK hP 0 rfl rfl 0 (by decide) (hw _ wd_1_13) (fun _ h9 => h9) rfl dX6_putNumber_18 ?_
  refine lv_aload_n hx hb dX6_putNumber_21 rfl (lv_at hl 1 rfl) ?_
  refine va_get (D := G) (ci := 6) (v := .int 17) (C := RX6) (T := TX6) (N := 16) hx hb hw inlX6 hown hK hP 0 rfl rfl 1 (by decide) (hw _ wd_7_12) (fun _ h9 => h9) rfl dX6_putNumber_22 ?_
  refine lv_iload_n hx hb dX6_putNumber_25 rfl (lv_at hl 2 rfl) ?_
  refine lv_iload_n hx hb dX6_putNumber_26 rfl (lv_at hl 0 rfl) ?_
  refine lv_iushr hx hb dX6_putNumber_27 rfl ?_
  refine lv_topi (fun z_4 ez_4 => ?_)
  refine lv_i2b hx hb dX6_putNumber_28 rfl ?_
  refine lv_topi (fun z_5 ez_5 => ?_)
  refine stB F hK hP hD hS 1 rfl (vin (by decide)) dX6_putNumber_29 (fun f_6 ef_6 H locs hP hD hS => ?_)
  have hP : va_P G vwCl [(h0, .inr (6, [.ref o_tape, .int 17, .ref o_river, .ref o_spare, .ref o_state, .ref o_past, .int o_nextPast, .int o_acts, .ref o_shelfRivers, .ref o_shelfStates, .int o_kept, .ref o_today, .ref o_outlook, .ref o_reader, .ref o_writer, .ref o_unchanged])), (o_tape, .inl (k 1, 400, .inl f_6))] H := hP
  have hD : va_D A [(h0, .inr (6, [.ref o_tape, .int 17, .ref o_river, .ref o_spare, .ref o_state, .ref o_past, .int o_nextPast, .int o_acts, .ref o_shelfRivers, .ref o_shelfStates, .int o_kept, .ref o_today, .ref o_outlook, .ref o_reader, .ref o_writer, .ref o_unchanged])), (o_tape, .inl (k 1, 400, .inl f_6))] := hD
  refine lv_aload_n hx hb dX6_putNumber_30 rfl (lv_at hl 1 rfl) ?_
  refine lv_dup hx hb dX6_putNumber_31 rfl ?_
  refine va_get (D := G) (ci := 6) (v := .int 17) (C := RX6) (T := TX6) (N := 16) hx hb hw inlX6 hown hK hP 0 rfl rfl 1 (by decide) (hw _ wd_7_12) (fun _ h9 => h9) rfl dX6_putNumber_32 ?_
  refine lv_iconst (v := 1) hx hb dX6_putNumber_35 (by decide) ?_
  refine lv_iadd hx hb dX6_putNumber_36 ?_
  refine topc (v := 18) (by decide) ?_
  refine va_put (D := G) (ci := 6) (v := .int 18) (ty := .int) (C := RX6) (T := TX6) (N := 16) hx hb hw inlX6 tyX6 tyX6_ok nmX6 hown hK hP hD hS 0 rfl rfl 1 (by decide) (hw _ wd_7_12) (fun _ h9 => h9) rfl (tyX6_ok 1 (by decide)) rfl rfl (Nat.le_of_ble_eq_true rfl) dX6_putNumber_37 (fun H locs hP hD hS => ?_)
  have hP : va_P G vwCl [(h0, .inr (6, [.ref o_tape, .int 18, .ref o_river, .ref o_spare, .ref o_state, .ref o_past, .int o_nextPast, .int o_acts, .ref o_shelfRivers, .ref o_shelfStates, .int o_kept, .ref o_today, .ref o_outlook, .ref o_reader, .ref o_writer, .ref o_unchanged])), (o_tape, .inl (k 1, 400, .inl f_6))] H := hP
  have hD : va_D A [(h0, .inr (6, [.ref o_tape, .int 18, .ref o_river, .ref o_spare, .ref o_state, .ref o_past, .int o_nextPast, .int o_acts, .ref o_shelfRivers, .ref o_shelfStates, .int o_kept, .ref o_today, .ref o_outlook, .ref o_reader, .ref o_writer, .ref o_unchanged])), (o_tape, .inl (k 1, 400, .inl f_6))] := hD
  refine lv_iinc (v := 8) (lv' := [(2, .int 8), (0, .ref h0), (1, .int a)]) hx hb dX6_putNumber_40 hl (k := 0) rfl (by decide) (by decide) rfl (fun ls hl => ?_)
  refine lv_goto (tgt := 3) hx hb dX6_putNumber_43 (by decide) ?_
  refine lv_iload_n hx hb dX6_putNumber_3 rfl (lv_at hl 0 rfl) ?_
  refine lv_if_lt (tgt := 46) hx hb dX6_putNumber_4 (by decide) (fun c_ => absurd c_ (by decide)) (fun _ => ?_)
  refine lv_aload_n hx hb dX6_putNumber_7 rfl (lv_at hl 1 rfl) ?_
  refine va_get (D := G) (ci := 6) (v := .int 18) (C := RX6) (T := TX6) (N := 16) hx hb hw inlX6 hown hK hP 0 rfl rfl 1 (by decide) (hw _ wd_7_12) (fun _ h9 => h9) rfl dX6_putNumber_8 ?_
  refine lv_sipush (v := 400) hx hb dX6_putNumber_11 (by decide) ?_
  refine lv_icmp_ge (tgt := 40) hx hb dX6_putNumber_14 (by decide) (fun c_ => absurd c_ (by decide)) (fun _ => ?_)
  refine lv_aload_n hx hb dX6_putNumber_17 rfl (lv_at hl 1 rfl) ?_
  refine va_get (D := G) (ci := 6) (v := .ref o_tape) (C := RX6) (T := TX6) (N := 16) hx hb hw inlX6 hown hK hP 0 rfl rfl 0 (by decide) (hw _ wd_1_13) (fun _ h9 => h9) rfl dX6_putNumber_18 ?_
  refine lv_aload_n hx hb dX6_putNumber_21 rfl (lv_at hl 1 rfl) ?_
  refine va_get (D := G) (ci := 6) (v := .int 18) (C := RX6) (T := TX6) (N := 16) hx hb hw inlX6 hown hK hP 0 rfl rfl 1 (by decide) (hw _ wd_7_12) (fun _ h9 => h9) rfl dX6_putNumber_22 ?_
  refine lv_iload_n hx hb dX6_putNumber_25 rfl (lv_at hl 2 rfl) ?_
  refine lv_iload_n hx hb dX6_putNumber_26 rfl (lv_at hl 0 rfl) ?_
  refine lv_iushr hx hb dX6_putNumber_27 rfl ?_
  refine lv_topi (fun z_7 ez_7 => ?_)
  refine lv_i2b hx hb dX6_putNumber_28 rfl ?_
  refine lv_topi (fun z_8 ez_8 => ?_)
  refine stB F hK hP hD hS 1 rfl (vin (by decide)) dX6_putNumber_29 (fun f_9 ef_9 H locs hP hD hS => ?_)
  have hP : va_P G vwCl [(h0, .inr (6, [.ref o_tape, .int 18, .ref o_river, .ref o_spare, .ref o_state, .ref o_past, .int o_nextPast, .int o_acts, .ref o_shelfRivers, .ref o_shelfStates, .int o_kept, .ref o_today, .ref o_outlook, .ref o_reader, .ref o_writer, .ref o_unchanged])), (o_tape, .inl (k 1, 400, .inl f_9))] H := hP
  have hD : va_D A [(h0, .inr (6, [.ref o_tape, .int 18, .ref o_river, .ref o_spare, .ref o_state, .ref o_past, .int o_nextPast, .int o_acts, .ref o_shelfRivers, .ref o_shelfStates, .int o_kept, .ref o_today, .ref o_outlook, .ref o_reader, .ref o_writer, .ref o_unchanged])), (o_tape, .inl (k 1, 400, .inl f_9))] := hD
  refine lv_aload_n hx hb dX6_putNumber_30 rfl (lv_at hl 1 rfl) ?_
  refine lv_dup hx hb dX6_putNumber_31 rfl ?_
  refine va_get (D := G) (ci := 6) (v := .int 18) (C := RX6) (T := TX6) (N := 16) hx hb hw inlX6 hown hK hP 0 rfl rfl 1 (by decide) (hw _ wd_7_12) (fun _ h9 => h9) rfl dX6_putNumber_32 ?_
  refine lv_iconst (v := 1) hx hb dX6_putNumber_35 (by decide) ?_
  refine lv_iadd hx hb dX6_putNumber_36 ?_
  refine topc (v := 19) (by decide) ?_
  refine va_put (D := G) (ci := 6) (v := .int 19) (ty := .int) (C := RX6) (T := TX6) (N := 16) hx hb hw inlX6 tyX6 tyX6_ok nmX6 hown hK hP hD hS 0 rfl rfl 1 (by decide) (hw _ wd_7_12) (fun _ h9 => h9) rfl (tyX6_ok 1 (by decide)) rfl rfl (Nat.le_of_ble_eq_true rfl) dX6_putNumber_37 (fun H locs hP hD hS => ?_)
  have hP : va_P G vwCl [(h0, .inr (6, [.ref o_tape, .int 19, .ref o_river, .ref o_spare, .ref o_state, .ref o_past, .int o_nextPast, .int o_acts, .ref o_shelfRivers, .ref o_shelfStates, .int o_kept, .ref o_today, .ref o_outlook, .ref o_reader, .ref o_writer, .ref o_unchanged])), (o_tape, .inl (k 1, 400, .inl f_9))] H := hP
  have hD : va_D A [(h0, .inr (6, [.ref o_tape, .int 19, .ref o_river, .ref o_spare, .ref o_state, .ref o_past, .int o_nextPast, .int o_acts, .ref o_shelfRivers, .ref o_shelfStates, .int o_kept, .ref o_today, .ref o_outlook, .ref o_reader, .ref o_writer, .ref o_unchanged])), (o_tape, .inl (k 1, 400, .inl f_9))] := hD
  refine lv_iinc (v := 0) (lv' := [(2, .int 0), (0, .ref h0), (1, .int a)]) hx hb dX6_putNumber_40 hl (k := 0) rfl (by decide) (by decide) rfl (fun ls hl => ?_)
  refine lv_goto (tgt := 3) hx hb dX6_putNumber_43 (by decide) ?_
  refine lv_iload_n hx hb dX6_putNumber_3 rfl (lv_at hl 0 rfl) ?_
  refine lv_if_lt (tgt := 46) hx hb dX6_putNumber_4 (by decide) (fun c_ => absurd c_ (by decide)) (fun _ => ?_)
  refine lv_aload_n hx hb dX6_putNumber_7 rfl (lv_at hl 1 rfl) ?_
  refine va_get (D := G) (ci := 6) (v := .int 19) (C := RX6) (T := TX6) (N := 16) hx hb hw inlX6 hown hK hP 0 rfl rfl 1 (by decide) (hw _ wd_7_12) (fun _ h9 => h9) rfl dX6_putNumber_8 ?_
  refine lv_sipush (v := 400) hx hb dX6_putNumber_11 (by decide) ?_
  refine lv_icmp_ge (tgt := 40) hx hb dX6_putNumber_14 (by decide) (fun c_ => absurd c_ (by decide)) (fun _ => ?_)
  refine lv_aload_n hx hb dX6_putNumber_17 rfl (lv_at hl 1 rfl) ?_
  refine va_get (D := G) (ci := 6) (v := .ref o_tape) (C := RX6) (T := TX6) (N := 16) hx hb hw inlX6 hown hK hP 0 rfl rfl 0 (by decide) (hw _ wd_1_13) (fun _ h9 => h9) rfl dX6_putNumber_18 ?_
  refine lv_aload_n hx hb dX6_putNumber_21 rfl (lv_at hl 1 rfl) ?_
  refine va_get (D := G) (ci := 6) (v := .int 19) (C := RX6) (T := TX6) (N := 16) hx hb hw inlX6 hown hK hP 0 rfl rfl 1 (by decide) (hw _ wd_7_12) (fun _ h9 => h9) rfl dX6_putNumber_22 ?_
  refine lv_iload_n hx hb dX6_putNumber_25 rfl (lv_at hl 2 rfl) ?_
  refine lv_iload_n hx hb dX6_putNumber_26 rfl (lv_at hl 0 rfl) ?_
  refine lv_iushr hx hb dX6_putNumber_27 rfl ?_
  refine lv_topi (fun z_10 ez_10 => ?_)
  refine lv_i2b hx hb dX6_putNumber_28 rfl ?_
  refine lv_topi (fun z_11 ez_11 => ?_)
  refine stB F hK hP hD hS 1 rfl (vin (by decide)) dX6_putNumber_29 (fun f_12 ef_12 H locs hP hD hS => ?_)
  have hP : va_P G vwCl [(h0, .inr (6, [.ref o_tape, .int 19, .ref o_river, .ref o_spare, .ref o_state, .ref o_past, .int o_nextPast, .int o_acts, .ref o_shelfRivers, .ref o_shelfStates, .int o_kept, .ref o_today, .ref o_outlook, .ref o_reader, .ref o_writer, .ref o_unchanged])), (o_tape, .inl (k 1, 400, .inl f_12))] H := hP
  have hD : va_D A [(h0, .inr (6, [.ref o_tape, .int 19, .ref o_river, .ref o_spare, .ref o_state, .ref o_past, .int o_nextPast, .int o_acts, .ref o_shelfRivers, .ref o_shelfStates, .int o_kept, .ref o_today, .ref o_outlook, .ref o_reader, .ref o_writer, .ref o_unchanged])), (o_tape, .inl (k 1, 400, .inl f_12))] := hD
  refine lv_aload_n hx hb dX6_putNumber_30 rfl (lv_at hl 1 rfl) ?_
  refine lv_dup hx hb dX6_putNumber_31 rfl ?_
  refine va_get (D := G) (ci := 6) (v := .int 19) (C := RX6) (T := TX6) (N := 16) hx hb hw inlX6 hown hK hP 0 rfl rfl 1 (by decide) (hw _ wd_7_12) (fun _ h9 => h9) rfl dX6_putNumber_32 ?_
  refine lv_iconst (v := 1) hx hb dX6_putNumber_35 (by decide) ?_
  refine lv_iadd hx hb dX6_putNumber_36 ?_
  refine topc (v := 20) (by decide) ?_
  refine va_put (D := G) (ci := 6) (v := .int 20) (ty := .int) (C := RX6) (T := TX6) (N := 16) hx hb hw inlX6 tyX6 tyX6_ok nmX6 hown hK hP hD hS 0 rfl rfl 1 (by decide) (hw _ wd_7_12) (fun _ h9 => h9) rfl (tyX6_ok 1 (by decide)) rfl rfl (Nat.le_of_ble_eq_true rfl) dX6_putNumber_37 (fun H locs hP hD hS => ?_)
  have hP : va_P G vwCl [(h0, .inr (6, [.ref o_tape, .int 20, .ref o_river, .ref o_spare, .ref o_state, .ref o_past, .int o_nextPast, .int o_acts, .ref o_shelfRivers, .ref o_shelfStates, .int o_kept, .ref o_today, .ref o_outlook, .ref o_reader, .ref o_writer, .ref o_unchanged])), (o_tape, .inl (k 1, 400, .inl f_12))] H := hP
  have hD : va_D A [(h0, .inr (6, [.ref o_tape, .int 20, .ref o_river, .ref o_spare, .ref o_state, .ref o_past, .int o_nextPast, .int o_acts, .ref o_shelfRivers, .ref o_shelfStates, .int o_kept, .ref o_today, .ref o_outlook, .ref o_reader, .ref o_writer, .ref o_unchanged])), (o_tape, .inl (k 1, 400, .inl f_12))] := hD
  refine lv_iinc (v := (-8)) (lv' := [(2, .int (-8)), (0, .ref h0), (1, .int a)]) hx hb dX6_putNumber_40 hl (k := 0) rfl (by decide) (by decide) rfl (fun ls hl => ?_)
  refine lv_goto (tgt := 3) hx hb dX6_putNumber_43 (by decide) ?_
  refine lv_iload_n hx hb dX6_putNumber_3 rfl (lv_at hl 0 rfl) ?_
  refine lv_if_lt (tgt := 46) hx hb dX6_putNumber_4 (by decide) (fun _ => ?_) (fun c_ => absurd (by decide) c_)
  exact exV (w := [(h0, .inr (6, [.ref o_tape, .int 20, .ref o_river, .ref o_spare, .ref o_state, .ref o_past, .int o_nextPast, .int o_acts, .ref o_shelfRivers, .ref o_shelfStates, .int o_kept, .ref o_today, .ref o_outlook, .ref o_reader, .ref o_writer, .ref o_unchanged])), (o_tape, .inl (k 1, 400, .inl f_12))]) F hP hD hS dX6_putNumber_46 [0, 1] (by decide) rfl rfl (⟨f_12, rfl⟩)
set_option maxHeartbeats 4000000 in
set_option maxRecDepth 100000 in
theorem c_X6_feed (l : Launch) (G : va_G) (k : Nat → ClassId) (h0 : Nat) (o_tape : Nat) (o_river : Nat) (o_spare : Nat) (o_state : Nat) (o_past : Nat) (o_shelfRivers : Nat) (o_shelfStates : Nat) (o_today : Nat) (o_outlook : Nat) (o_reader : Nat) (o_writer : Nat) (o_unchanged : Nat) (o_nextPast : Int32) (o_acts : Int32) (o_kept : Int32) (f : Nat → Int32) (a : Int32) (b : Int32) (c : Int32) (d : Int32) (e : Int32) : CtI l G k yX6_feed cX6_feed 6 .int ({ frames := 2, cells := 0, slots := 0, locals := 62 }) [.ref h0, .int a, .int b, .int c, .int d, .int e] [(h0, .inr (6, [.ref o_tape, .int 0, .ref o_river, .ref o_spare, .ref o_state, .ref o_past, .int o_nextPast, .int o_acts, .ref o_shelfRivers, .ref o_shelfStates, .int o_kept, .ref o_today, .ref o_outlook, .ref o_reader, .ref o_writer, .ref o_unchanged])), (o_tape, .inl (k 1, 400, .inl f))] (fun v w => ∃ g : Nat → Int32, v = 20 ∧ w = [(h0, .inr (6, [.ref o_tape, .int 20, .ref o_river, .ref o_spare, .ref o_state, .ref o_past, .int o_nextPast, .int o_acts, .ref o_shelfRivers, .ref o_shelfStates, .int o_kept, .ref o_today, .ref o_outlook, .ref o_reader, .ref o_writer, .ref o_unchanged])), (o_tape, .inl (k 1, 400, .inl g))]) := by
  refine enI (by decide) (Nat.le_of_ble_eq_true rfl) ?_
  intro pg_ ev_ s mi_ below_ meth cd_ ls A F hK hN hA hP hD hS hl
  obtain ⟨hx, hb, hr, hml, hown, hlk, hw, hin⟩ := id F
  have hown : s.vm.findClass RX6 = some mi_.cls := hown
  have hl : lv_has ls 6 [(0, .ref h0), (1, .int a), (2, .int b), (3, .int c), (4, .int d), (5, .int e)] := hl
  refine lv_aload_n hx hb dX6_feed_0 rfl (lv_at hl 0 rfl) ?_
  refine va_get (D := G) (ci := 6) (v := .int 0) (C := RX6) (T := TX6) (N := 16) hx hb hw inlX6 hown hK hP 0 rfl rfl 1 (by decide) (hw _ wd_7_12) (fun _ h9 => h9) rfl dX6_feed_1 ?_
  refine lv_bipush (v := 20) hx hb dX6_feed_4 (by decide) ?_
  refine lv_iadd hx hb dX6_feed_6 ?_
  refine topc (v := 20) (by decide) ?_
  refine lv_sipush (v := 400) hx hb dX6_feed_7 (by decide) ?_
  refine lv_icmp_le (tgt := 15) hx hb dX6_feed_10 (by decide) (fun _ => ?_) (fun c_ => absurd (by decide) c_)
  refine lv_aload_n hx hb dX6_feed_15 rfl (lv_at hl 0 rfl) ?_
  refine lv_iload_n hx hb dX6_feed_16 rfl (lv_at hl 1 rfl) ?_
  refine kVv (b := h0) (As := [.int a]) (rest := []) (wr := []) F hK hN hA (c_X6_putNumber_0 l G k h0 o_tape o_river o_spare o_state o_past o_shelfRivers o_shelfStates o_today o_outlook o_reader o_writer o_unchanged o_nextPast o_acts o_kept f a) mv_X6_putNumber wd_7_13 ⟨Nat.le_of_ble_eq_true rfl, Nat.le_of_ble_eq_true rfl⟩ ⟨Nat.le_of_ble_eq_true rfl, Nat.le_of_ble_eq_true rfl⟩ hP hD hS [0, 1] [] rfl rfl rfl (by decide) (by decide) (by decide) 0 rfl rfl rfl rfl hl.1 (Nat.le_of_ble_eq_true rfl) dX6_feed_17 (fun w H locs hq hP hD hS => ?_)
  obtain ⟨g_1, rfl⟩ := hq
  have hP : va_P G vwCl [(h0, .inr (6, [.ref o_tape, .int 4, .ref o_river, .ref o_spare, .ref o_state, .ref o_past, .int o_nextPast, .int o_acts, .ref o_shelfRivers, .ref o_shelfStates, .int o_kept, .ref o_today, .ref o_outlook, .ref o_reader, .ref o_writer, .ref o_unchanged])), (o_tape, .inl (k 1, 400, .inl g_1))] H := hP
  have hD : va_D A [(h0, .inr (6, [.ref o_tape, .int 4, .ref o_river, .ref o_spare, .ref o_state, .ref o_past, .int o_nextPast, .int o_acts, .ref o_shelfRivers, .ref o_shelfStates, .int o_kept, .ref o_today, .ref o_outlook, .ref o_reader, .ref o_writer, .ref o_unchanged])), (o_tape, .inl (k 1, 400, .inl g_1))] := hD
  refine lv_aload_n hx hb dX6_feed_20 rfl (lv_at hl 0 rfl) ?_
  refine lv_iload_n hx hb dX6_feed_21 rfl (lv_at hl 2 rfl) ?_
  refine kVv (b := h0) (As := [.int b]) (rest := []) (wr := []) F hK hN hA (c_X6_putNumber_4 l G k h0 o_tape o_river o_spare o_state o_past o_shelfRivers o_shelfStates o_today o_outlook o_reader o_writer o_unchanged o_nextPast o_acts o_kept g_1 b) mv_X6_putNumber wd_7_13 ⟨Nat.le_of_ble_eq_true rfl, Nat.le_of_ble_eq_true rfl⟩ ⟨Nat.le_of_ble_eq_true rfl, Nat.le_of_ble_eq_true rfl⟩ hP hD hS [0, 1] [] rfl rfl rfl (by decide) (by decide) (by decide) 0 rfl rfl rfl rfl hl.1 (Nat.le_of_ble_eq_true rfl) dX6_feed_22 (fun w H locs hq hP hD hS => ?_)
  obtain ⟨g_2, rfl⟩ := hq
  have hP : va_P G vwCl [(h0, .inr (6, [.ref o_tape, .int 8, .ref o_river, .ref o_spare, .ref o_state, .ref o_past, .int o_nextPast, .int o_acts, .ref o_shelfRivers, .ref o_shelfStates, .int o_kept, .ref o_today, .ref o_outlook, .ref o_reader, .ref o_writer, .ref o_unchanged])), (o_tape, .inl (k 1, 400, .inl g_2))] H := hP
  have hD : va_D A [(h0, .inr (6, [.ref o_tape, .int 8, .ref o_river, .ref o_spare, .ref o_state, .ref o_past, .int o_nextPast, .int o_acts, .ref o_shelfRivers, .ref o_shelfStates, .int o_kept, .ref o_today, .ref o_outlook, .ref o_reader, .ref o_writer, .ref o_unchanged])), (o_tape, .inl (k 1, 400, .inl g_2))] := hD
  refine lv_aload_n hx hb dX6_feed_25 rfl (lv_at hl 0 rfl) ?_
  refine lv_iload_n hx hb dX6_feed_26 rfl (lv_at hl 3 rfl) ?_
  refine kVv (b := h0) (As := [.int c]) (rest := []) (wr := []) F hK hN hA (c_X6_putNumber_8 l G k h0 o_tape o_river o_spare o_state o_past o_shelfRivers o_shelfStates o_today o_outlook o_reader o_writer o_unchanged o_nextPast o_acts o_kept g_2 c) mv_X6_putNumber wd_7_13 ⟨Nat.le_of_ble_eq_true rfl, Nat.le_of_ble_eq_true rfl⟩ ⟨Nat.le_of_ble_eq_true rfl, Nat.le_of_ble_eq_true rfl⟩ hP hD hS [0, 1] [] rfl rfl rfl (by decide) (by decide) (by decide) 0 rfl rfl rfl rfl hl.1 (Nat.le_of_ble_eq_true rfl) dX6_feed_27 (fun w H locs hq hP hD hS => ?_)
  obtain ⟨g_3, rfl⟩ := hq
  have hP : va_P G vwCl [(h0, .inr (6, [.ref o_tape, .int 12, .ref o_river, .ref o_spare, .ref o_state, .ref o_past, .int o_nextPast, .int o_acts, .ref o_shelfRivers, .ref o_shelfStates, .int o_kept, .ref o_today, .ref o_outlook, .ref o_reader, .ref o_writer, .ref o_unchanged])), (o_tape, .inl (k 1, 400, .inl g_3))] H := hP
  have hD : va_D A [(h0, .inr (6, [.ref o_tape, .int 12, .ref o_river, .ref o_spare, .ref o_state, .ref o_past, .int o_nextPast, .int o_acts, .ref o_shelfRivers, .ref o_shelfStates, .int o_kept, .ref o_today, .ref o_outlook, .ref o_reader, .ref o_writer, .ref o_unchanged])), (o_tape, .inl (k 1, 400, .inl g_3))] := hD
  refine lv_aload_n hx hb dX6_feed_30 rfl (lv_at hl 0 rfl) ?_
  refine lv_iload hx hb dX6_feed_31 (lv_at hl 4 rfl) ?_
  refine kVv (b := h0) (As := [.int d]) (rest := []) (wr := []) F hK hN hA (c_X6_putNumber_12 l G k h0 o_tape o_river o_spare o_state o_past o_shelfRivers o_shelfStates o_today o_outlook o_reader o_writer o_unchanged o_nextPast o_acts o_kept g_3 d) mv_X6_putNumber wd_7_13 ⟨Nat.le_of_ble_eq_true rfl, Nat.le_of_ble_eq_true rfl⟩ ⟨Nat.le_of_ble_eq_true rfl, Nat.le_of_ble_eq_true rfl⟩ hP hD hS [0, 1] [] rfl rfl rfl (by decide) (by decide) (by decide) 0 rfl rfl rfl rfl hl.1 (Nat.le_of_ble_eq_true rfl) dX6_feed_33 (fun w H locs hq hP hD hS => ?_)
  obtain ⟨g_4, rfl⟩ := hq
  have hP : va_P G vwCl [(h0, .inr (6, [.ref o_tape, .int 16, .ref o_river, .ref o_spare, .ref o_state, .ref o_past, .int o_nextPast, .int o_acts, .ref o_shelfRivers, .ref o_shelfStates, .int o_kept, .ref o_today, .ref o_outlook, .ref o_reader, .ref o_writer, .ref o_unchanged])), (o_tape, .inl (k 1, 400, .inl g_4))] H := hP
  have hD : va_D A [(h0, .inr (6, [.ref o_tape, .int 16, .ref o_river, .ref o_spare, .ref o_state, .ref o_past, .int o_nextPast, .int o_acts, .ref o_shelfRivers, .ref o_shelfStates, .int o_kept, .ref o_today, .ref o_outlook, .ref o_reader, .ref o_writer, .ref o_unchanged])), (o_tape, .inl (k 1, 400, .inl g_4))] := hD
  refine lv_aload_n hx hb dX6_feed_36 rfl (lv_at hl 0 rfl) ?_
  refine lv_iload hx hb dX6_feed_37 (lv_at hl 5 rfl) ?_
  refine kVv (b := h0) (As := [.int e]) (rest := []) (wr := []) F hK hN hA (c_X6_putNumber_16 l G k h0 o_tape o_river o_spare o_state o_past o_shelfRivers o_shelfStates o_today o_outlook o_reader o_writer o_unchanged o_nextPast o_acts o_kept g_4 e) mv_X6_putNumber wd_7_13 ⟨Nat.le_of_ble_eq_true rfl, Nat.le_of_ble_eq_true rfl⟩ ⟨Nat.le_of_ble_eq_true rfl, Nat.le_of_ble_eq_true rfl⟩ hP hD hS [0, 1] [] rfl rfl rfl (by decide) (by decide) (by decide) 0 rfl rfl rfl rfl hl.1 (Nat.le_of_ble_eq_true rfl) dX6_feed_39 (fun w H locs hq hP hD hS => ?_)
  obtain ⟨g_5, rfl⟩ := hq
  have hP : va_P G vwCl [(h0, .inr (6, [.ref o_tape, .int 20, .ref o_river, .ref o_spare, .ref o_state, .ref o_past, .int o_nextPast, .int o_acts, .ref o_shelfRivers, .ref o_shelfStates, .int o_kept, .ref o_today, .ref o_outlook, .ref o_reader, .ref o_writer, .ref o_unchanged])), (o_tape, .inl (k 1, 400, .inl g_5))] H := hP
  have hD : va_D A [(h0, .inr (6, [.ref o_tape, .int 20, .ref o_river, .ref o_spare, .ref o_state, .ref o_past, .int o_nextPast, .int o_acts, .ref o_shelfRivers, .ref o_shelfStates, .int o_kept, .ref o_today, .ref o_outlook, .ref o_reader, .ref o_writer, .ref o_unchanged])), (o_tape, .inl (k 1, 400, .inl g_5))] := hD
  refine lv_aload_n hx hb dX6_feed_42 rfl (lv_at hl 0 rfl) ?_
  refine va_get (D := G) (ci := 6) (v := .int 20) (C := RX6) (T := TX6) (N := 16) hx hb hw inlX6 hown hK hP 0 rfl rfl 1 (by decide) (hw _ wd_7_12) (fun _ h9 => h9) rfl dX6_feed_43 ?_
  exact exI (w := [(h0, .inr (6, [.ref o_tape, .int 20, .ref o_river, .ref o_spare, .ref o_state, .ref o_past, .int o_nextPast, .int o_acts, .ref o_shelfRivers, .ref o_shelfStates, .int o_kept, .ref o_today, .ref o_outlook, .ref o_reader, .ref o_writer, .ref o_unchanged])), (o_tape, .inl (k 1, 400, .inl g_5))]) F hP hD hS dX6_feed_46 [0, 1] (by decide) rfl rfl rfl (⟨g_5, rfl, rfl⟩)
