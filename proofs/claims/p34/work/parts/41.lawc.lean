theorem mv_X6_above : MV yX6_above cX6_above 4 (some .int) 1 := ⟨wd_51_19, wd_51_17, wd_51_18, wd_1_2, by decide, by decide, by decide +kernel⟩
theorem mv_X6_aged : MV yX6_aged cX6_aged 2 (some .int) 1 := ⟨wd_49_5, wd_49_3, wd_49_4, wd_1_2, by decide, by decide, by decide +kernel⟩
theorem mv_X6_back : MV yX6_back cX6_back 2 (some .int) 1 := ⟨wd_39_12, wd_39_10, wd_39_11, wd_1_2, by decide, by decide, by decide +kernel⟩
theorem mv_X6_barter : MV yX6_barter cX6_barter 4 (some .int) 2 := ⟨wd_33_4, wd_33_2, wd_33_3, wd_1_2, by decide, by decide, by decide +kernel⟩
theorem mv_X6_caller : MV yX6_caller cX6_caller 5 (some .int) 1 := ⟨wd_44_23, wd_44_21, wd_44_22, wd_1_2, by decide, by decide, by decide +kernel⟩
theorem mv_X6_calls : MV yX6_calls cX6_calls 5 (some .int) 1 := ⟨wd_45_17, wd_45_15, wd_45_16, wd_1_2, by decide, by decide, by decide +kernel⟩
theorem mv_X6_coming : MV yX6_coming cX6_coming 3 (some .int) 2 := ⟨wd_51_8, wd_51_6, wd_51_7, wd_1_2, by decide, by decide, by decide +kernel⟩
theorem mv_X6_count : MV yX6_count cX6_count 2 (some .int) 1 := ⟨wd_60_19, wd_60_17, wd_60_18, wd_1_2, by decide, by decide, by decide +kernel⟩
theorem mv_X6_days : MV yX6_days cX6_days 3 (some .int) 1 := ⟨wd_19_11, wd_19_9, wd_19_10, wd_1_2, by decide, by decide, by decide +kernel⟩
theorem mv_X6_demand : MV yX6_demand cX6_demand 4 (some .int) 2 := ⟨wd_31_7, wd_31_5, wd_31_6, wd_1_2, by decide, by decide, by decide +kernel⟩
theorem mv_X6_dry : MV yX6_dry cX6_dry 3 (some .int) 1 := ⟨wd_56_22, wd_56_20, wd_56_21, wd_1_2, by decide, by decide, by decide +kernel⟩
theorem mv_X6_end : MV yX6_end cX6_end 2 (some .int) 1 := ⟨wd_8_5, wd_8_3, wd_8_4, wd_1_2, by decide, by decide, by decide +kernel⟩
theorem mv_X6_feed : MV yX6_feed cX6_feed 6 (some .int) 5 := ⟨wd_7_11, wd_7_9, wd_7_10, wd_1_2, by decide, by decide, by decide +kernel⟩
theorem mv_X6_firm : MV yX6_firm cX6_firm 4 (some .int) 3 := ⟨wd_47_11, wd_47_9, wd_47_10, wd_1_2, by decide, by decide, by decide +kernel⟩
theorem mv_X6_flow : MV yX6_flow cX6_flow 3 (some .int) 2 := ⟨wd_42_6, wd_42_4, wd_42_5, wd_1_2, by decide, by decide, by decide +kernel⟩
theorem mv_X6_full : MV yX6_full cX6_full 3 (some .int) 2 := ⟨wd_57_15, wd_57_13, wd_57_14, wd_1_2, by decide, by decide, by decide +kernel⟩
theorem mv_X6_futile : MV yX6_futile cX6_futile 3 (some .int) 2 := ⟨wd_46_14, wd_46_12, wd_46_13, wd_1_2, by decide, by decide, by decide +kernel⟩
theorem mv_X6_gain : MV yX6_gain cX6_gain 5 (some .int) 3 := ⟨wd_59_2, wd_59_0, wd_59_1, wd_1_2, by decide, by decide, by decide +kernel⟩
theorem mv_X6_gone : MV yX6_gone cX6_gone 2 (some .long) 1 := ⟨wd_50_4, wd_50_2, wd_50_3, wd_1_2, by decide, by decide, by decide +kernel⟩
theorem mv_X6_hurt : MV yX6_hurt cX6_hurt 4 (some .int) 3 := ⟨wd_48_12, wd_48_10, wd_48_11, wd_1_2, by decide, by decide, by decide +kernel⟩
theorem mv_X6_keep : MV yX6_keep cX6_keep 2 (some .int) 1 := ⟨wd_38_23, wd_38_21, wd_38_22, wd_1_2, by decide, by decide, by decide +kernel⟩
theorem mv_X6_letter : MV yX6_letter cX6_letter 2 (some .int) 1 := ⟨wd_52_15, wd_52_13, wd_52_14, wd_1_2, by decide, by decide, by decide +kernel⟩
theorem mv_X6_movable : MV yX6_movable cX6_movable 4 (some .int) 1 := ⟨wd_48_21, wd_48_19, wd_48_20, wd_1_2, by decide, by decide, by decide +kernel⟩
theorem mv_X6_move : MV yX6_move cX6_move 3 (some .int) 2 := ⟨wd_34_5, wd_34_3, wd_34_4, wd_1_2, by decide, by decide, by decide +kernel⟩
theorem mv_X6_needs : MV yX6_needs cX6_needs 3 (some .int) 1 := ⟨wd_46_22, wd_46_20, wd_46_21, wd_1_2, by decide, by decide, by decide +kernel⟩
theorem mv_X6_order : MV yX6_order cX6_order 6 (some .int) 3 := ⟨wd_32_1, wd_31_23, wd_32_0, wd_1_2, by decide, by decide, by decide +kernel⟩
theorem mv_X6_reach : MV yX6_reach cX6_reach 3 (some .int) 2 := ⟨wd_39_20, wd_39_18, wd_39_19, wd_1_2, by decide, by decide, by decide +kernel⟩
theorem mv_X6_right : MV yX6_right cX6_right 4 (some .int) 2 := ⟨wd_40_23, wd_40_21, wd_40_22, wd_1_2, by decide, by decide, by decide +kernel⟩
theorem mv_X6_runs : MV yX6_runs cX6_runs 3 (some .int) 2 := ⟨wd_49_13, wd_49_11, wd_49_12, wd_1_2, by decide, by decide, by decide +kernel⟩
theorem mv_X6_share : MV yX6_share cX6_share 6 (some .int) 2 := ⟨wd_59_14, wd_59_12, wd_59_13, wd_1_2, by decide, by decide, by decide +kernel⟩
theorem mv_X6_shut : MV yX6_shut cX6_shut 3 (some .int) 1 := ⟨wd_44_3, wd_44_1, wd_44_2, wd_1_2, by decide, by decide, by decide +kernel⟩
theorem mv_X6_spell : MV yX6_spell cX6_spell 4 (some .int) 3 := ⟨wd_58_16, wd_58_14, wd_58_15, wd_1_2, by decide, by decide, by decide +kernel⟩
theorem mv_X6_store : MV yX6_store cX6_store 3 (some .int) 2 := ⟨wd_41_17, wd_41_15, wd_41_16, wd_1_2, by decide, by decide, by decide +kernel⟩
theorem mv_X6_stored : MV yX6_stored cX6_stored 3 (some .int) 2 := ⟨wd_43_15, wd_43_13, wd_43_14, wd_1_2, by decide, by decide, by decide +kernel⟩
theorem mv_X6_swap : MV yX6_swap cX6_swap 7 (some .int) 4 := ⟨wd_58_4, wd_58_2, wd_58_3, wd_1_2, by decide, by decide, by decide +kernel⟩
theorem mv_X6_takes : MV yX6_takes cX6_takes 3 (some .int) 2 := ⟨wd_43_2, wd_43_0, wd_43_1, wd_1_2, by decide, by decide, by decide +kernel⟩
theorem mv_X6_tell : MV yX6_tell cX6_tell 3 (some .int) 0 := ⟨wd_8_16, wd_8_14, wd_8_15, wd_1_2, by decide, by decide, by decide +kernel⟩
theorem mv_X6_thirst : MV yX6_thirst cX6_thirst 5 (some .int) 1 := ⟨wd_52_3, wd_52_1, wd_52_2, wd_1_2, by decide, by decide, by decide +kernel⟩
theorem mv_X6_trade : MV yX6_trade cX6_trade 3 (some .int) 2 := ⟨wd_33_13, wd_33_11, wd_33_12, wd_1_2, by decide, by decide, by decide +kernel⟩
theorem mv_X6_undo : MV yX6_undo cX6_undo 1 (some .int) 0 := ⟨wd_38_15, wd_38_13, wd_38_14, wd_1_2, by decide, by decide, by decide +kernel⟩
theorem mv_X6_wet : MV yX6_wet cX6_wet 3 (some .int) 1 := ⟨wd_30_17, wd_30_15, wd_30_16, wd_1_2, by decide, by decide, by decide +kernel⟩
theorem mv_X6_without : MV yX6_without cX6_without 5 (some .int) 3 := ⟨wd_48_2, wd_48_0, wd_48_1, wd_1_2, by decide, by decide, by decide +kernel⟩
theorem mv_X6_worst : MV yX6_worst cX6_worst 6 (some .int) 1 := ⟨wd_60_11, wd_60_9, wd_60_10, wd_1_2, by decide, by decide, by decide +kernel⟩
theorem mv_X7_above : MV yX7_above cX7_above 4 (some .int) 1 := ⟨wd_51_23, wd_51_21, wd_51_22, wd_1_5, by decide, by decide, by decide +kernel⟩
theorem mv_X7_aged : MV yX7_aged cX7_aged 2 (some .int) 1 := ⟨wd_49_9, wd_49_7, wd_49_8, wd_1_5, by decide, by decide, by decide +kernel⟩
theorem mv_X7_back : MV yX7_back cX7_back 3 (some .int) 1 := ⟨wd_39_16, wd_39_14, wd_39_15, wd_1_5, by decide, by decide, by decide +kernel⟩
theorem mv_X7_barter : MV yX7_barter cX7_barter 4 (some .int) 2 := ⟨wd_33_9, wd_33_7, wd_33_8, wd_1_5, by decide, by decide, by decide +kernel⟩
theorem mv_X7_caller : MV yX7_caller cX7_caller 6 (some .int) 1 := ⟨wd_45_10, wd_45_8, wd_45_9, wd_1_5, by decide, by decide, by decide +kernel⟩
theorem mv_X7_calls : MV yX7_calls cX7_calls 6 (some .int) 1 := ⟨wd_46_6, wd_46_4, wd_46_5, wd_1_5, by decide, by decide, by decide +kernel⟩
theorem mv_X7_coming : MV yX7_coming cX7_coming 3 (some .int) 2 := ⟨wd_51_14, wd_51_12, wd_51_13, wd_1_5, by decide, by decide, by decide +kernel⟩
theorem mv_X7_count : MV yX7_count cX7_count 2 (some .int) 1 := ⟨wd_61_2, wd_61_0, wd_61_1, wd_1_5, by decide, by decide, by decide +kernel⟩
theorem mv_X7_days : MV yX7_days cX7_days 3 (some .int) 1 := ⟨wd_25_5, wd_25_3, wd_25_4, wd_1_5, by decide, by decide, by decide +kernel⟩
theorem mv_X7_demand : MV yX7_demand cX7_demand 3 (some .int) 2 := ⟨wd_31_17, wd_31_15, wd_31_16, wd_1_5, by decide, by decide, by decide +kernel⟩
theorem mv_X7_dry : MV yX7_dry cX7_dry 3 (some .int) 1 := ⟨wd_57_6, wd_57_4, wd_57_5, wd_1_5, by decide, by decide, by decide +kernel⟩
theorem mv_X7_end : MV yX7_end cX7_end 2 (some .int) 1 := ⟨wd_8_9, wd_8_7, wd_8_8, wd_1_5, by decide, by decide, by decide +kernel⟩
theorem mv_X7_feed : MV yX7_feed cX7_feed 6 (some .int) 5 := ⟨wd_7_20, wd_7_18, wd_7_19, wd_1_5, by decide, by decide, by decide +kernel⟩
theorem mv_X7_firm : MV yX7_firm cX7_firm 8 (some .int) 3 := ⟨wd_47_20, wd_47_18, wd_47_19, wd_1_5, by decide, by decide, by decide +kernel⟩
theorem mv_X7_flow : MV yX7_flow cX7_flow 3 (some .int) 2 := ⟨wd_42_22, wd_42_20, wd_42_21, wd_1_5, by decide, by decide, by decide +kernel⟩
theorem mv_X7_full : MV yX7_full cX7_full 6 (some .int) 2 := ⟨wd_58_0, wd_57_22, wd_57_23, wd_1_5, by decide, by decide, by decide +kernel⟩
theorem mv_X7_futile : MV yX7_futile cX7_futile 3 (some .int) 2 := ⟨wd_46_18, wd_46_16, wd_46_17, wd_1_5, by decide, by decide, by decide +kernel⟩
theorem mv_X7_gain : MV yX7_gain cX7_gain 4 (some .int) 3 := ⟨wd_59_7, wd_59_5, wd_59_6, wd_1_5, by decide, by decide, by decide +kernel⟩
theorem mv_X7_gone : MV yX7_gone cX7_gone 2 (some .long) 1 := ⟨wd_50_19, wd_50_17, wd_50_18, wd_1_5, by decide, by decide, by decide +kernel⟩
theorem mv_X7_hurt : MV yX7_hurt cX7_hurt 5 (some .int) 3 := ⟨wd_48_17, wd_48_15, wd_48_16, wd_1_5, by decide, by decide, by decide +kernel⟩
theorem mv_X7_keep : MV yX7_keep cX7_keep 3 (some .int) 1 := ⟨wd_39_8, wd_39_6, wd_39_7, wd_1_5, by decide, by decide, by decide +kernel⟩
theorem mv_X7_letter : MV yX7_letter cX7_letter 3 (some .int) 1 := ⟨wd_55_11, wd_55_9, wd_55_10, wd_1_5, by decide, by decide, by decide +kernel⟩
theorem mv_X7_movable : MV yX7_movable cX7_movable 4 (some .int) 1 := ⟨wd_49_1, wd_48_23, wd_49_0, wd_1_5, by decide, by decide, by decide +kernel⟩
theorem mv_X7_move : MV yX7_move cX7_move 3 (some .int) 2 := ⟨wd_37_7, wd_37_5, wd_37_6, wd_1_5, by decide, by decide, by decide +kernel⟩
theorem mv_X7_needs : MV yX7_needs cX7_needs 5 (some .int) 1 := ⟨wd_47_7, wd_47_5, wd_47_6, wd_1_5, by decide, by decide, by decide +kernel⟩
theorem mv_X7_order : MV yX7_order cX7_order 5 (some .int) 3 := ⟨wd_32_15, wd_32_13, wd_32_14, wd_1_5, by decide, by decide, by decide +kernel⟩
theorem mv_X7_reach : MV yX7_reach cX7_reach 3 (some .int) 2 := ⟨wd_40_11, wd_40_9, wd_40_10, wd_1_5, by decide, by decide, by decide +kernel⟩
theorem mv_X7_right : MV yX7_right cX7_right 3 (some .int) 2 := ⟨wd_41_12, wd_41_10, wd_41_11, wd_1_5, by decide, by decide, by decide +kernel⟩
theorem mv_X7_runs : MV yX7_runs cX7_runs 5 (some .int) 2 := ⟨wd_49_23, wd_49_21, wd_49_22, wd_1_5, by decide, by decide, by decide +kernel⟩
theorem mv_X7_share : MV yX7_share cX7_share 8 (some .int) 2 := ⟨wd_59_23, wd_59_21, wd_59_22, wd_1_5, by decide, by decide, by decide +kernel⟩
theorem mv_X7_shut : MV yX7_shut cX7_shut 2 (some .int) 1 := ⟨wd_44_11, wd_44_9, wd_44_10, wd_1_5, by decide, by decide, by decide +kernel⟩
theorem mv_X7_spell_ : MV yX7_spell_ cX7_spell_ 8 (some .int) 3 := ⟨wd_58_22, wd_58_20, wd_58_21, wd_1_5, by decide, by decide, by decide +kernel⟩
theorem mv_X7_store : MV yX7_store cX7_store 3 (some .int) 2 := ⟨wd_42_1, wd_41_23, wd_42_0, wd_1_5, by decide, by decide, by decide +kernel⟩
theorem mv_X7_stored : MV yX7_stored cX7_stored 3 (some .int) 2 := ⟨wd_43_23, wd_43_21, wd_43_22, wd_1_5, by decide, by decide, by decide +kernel⟩
theorem mv_X7_swap : MV yX7_swap cX7_swap 6 (some .int) 4 := ⟨wd_58_8, wd_58_6, wd_58_7, wd_1_5, by decide, by decide, by decide +kernel⟩
theorem mv_X7_takes : MV yX7_takes cX7_takes 3 (some .int) 2 := ⟨wd_43_11, wd_43_9, wd_43_10, wd_1_5, by decide, by decide, by decide +kernel⟩
theorem mv_X7_tell : MV yX7_tell cX7_tell 3 (some .int) 0 := ⟨wd_15_13, wd_15_11, wd_15_12, wd_1_5, by decide, by decide, by decide +kernel⟩
theorem mv_X7_thirst : MV yX7_thirst cX7_thirst 5 (some .int) 1 := ⟨wd_52_7, wd_52_5, wd_52_6, wd_1_5, by decide, by decide, by decide +kernel⟩
theorem mv_X7_trade : MV yX7_trade cX7_trade 4 (some .int) 2 := ⟨wd_34_1, wd_33_23, wd_34_0, wd_1_5, by decide, by decide, by decide +kernel⟩
theorem mv_X7_undo : MV yX7_undo cX7_undo 2 (some .int) 0 := ⟨wd_38_19, wd_38_17, wd_38_18, wd_1_5, by decide, by decide, by decide +kernel⟩
theorem mv_X7_wet : MV yX7_wet cX7_wet 2 (some .int) 1 := ⟨wd_30_22, wd_30_20, wd_30_21, wd_1_5, by decide, by decide, by decide +kernel⟩
theorem mv_X7_without : MV yX7_without cX7_without 4 (some .int) 3 := ⟨wd_48_7, wd_48_5, wd_48_6, wd_1_5, by decide, by decide, by decide +kernel⟩
theorem mv_X7_worst : MV yX7_worst cX7_worst 4 (some .int) 1 := ⟨wd_60_15, wd_60_13, wd_60_14, wd_1_5, by decide, by decide, by decide +kernel⟩
set_option maxHeartbeats 4000000 in
set_option maxRecDepth 100000 in
theorem law_c0 {pg_ : Program} {l : Launch} {ev_ : Env} {s : State} {mi_ : MethodId} {below_ : List Frame} {meth : Method} {cd_ : Code} {H : Heap} {locs : List Loc} {ls : Array Slot} {b L : Nat} {xs : Nat → Int32} {G : va_G} {k : Nat → ClassId} {tC tM aX aV : Nat → Nat} {h0 g0 : Nat} {i : Int32} {t : Int} {T : RwF} {g : Gs} (B0 : LB pg_ s mi_ meth cd_ b L xs l G k tC tM aX aV h0 g0) (hi : 0 ≤ i.toInt ∧ i.toInt + 6 ≤ L) (ht : (0 ≤ t ∧ t ≤ 400) ∧ ivP 400 (-128) 127 T) (hg : Gok g) (hC : Cs (eC l G k tC aX aV) t T g H) (hMs : Ms (eM l G k tM aX aV) t T g H) (hS : va_S (lawA s) s.heap H locs) (hl : lv_has ls 4 [(3, .int i), (2, .ref g0), (1, .ref h0), (0, .ref b)]) (hend : ∀ (t : Int) (T : RwF) (g : Gs) (H : Heap) (locs : List Loc), ((0 ≤ t ∧ t ≤ 400) ∧ ivP 400 (-128) 127 T) → Gok g → Cs (eC l G k tC aX aV) t T g H → Ms (eM l G k tM aX aV) t T g H → va_S (lawA s) s.heap H locs → W pg_ l ev_ room_1 s mi_ #[Value.ref b] below_ meth cd_ H locs 294 18964 (lw_Z below_ #[Value.ref b] s) (F0 mi_ 1529 ls [])) : W pg_ l ev_ room_1 s mi_ #[Value.ref b] below_ meth cd_ H locs 294 18964 (lw_Z below_ #[Value.ref b] s) (F0 mi_ 220 ls []) := by
  obtain ⟨F, hK, hN, hOc, hOm, hX, hbl, hL, hTc, hTm, hdis, hh0, hg0⟩ := id B0
  obtain ⟨hx, hb, hr, hml, hown, hlk, hw, -⟩ := id F
  have hbA : ¬ lawA s b := fun q => absurd q (by unfold lawA; omega)
  obtain ⟨kr, ks, kb, x1, y1, x2, y2, x3, y3, x4, y4, Da1, Sa1, Qa1, Da2, Sa2, Qa2, Da3, Sa3, Qa3, Da4, Sa4, Qa4⟩ := g
  obtain ⟨X0, W0, V0, A0, B1, K0, Z, Y0, Y1, u, hu, hX0, hW0, hV0, hA0, hK0, hqX0, hmW0, hy0, hy1, hTie0, hM⟩ := hMs
  obtain ⟨ht, hT8⟩ := ht
  have hg : ((kr = [26] ∧ ks = [27]) ∨ (kr = [27] ∧ ks = [26])) ∧ (0 ≤ kb ∧ kb ≤ 3) ∧ (0 ≤ x1 ∧ x1 ≤ 12) ∧ (0 ≤ y1 ∧ y1 ≤ 14) ∧ (0 ≤ x2 ∧ x2 ≤ 12) ∧ (0 ≤ y2 ∧ y2 ≤ 14) ∧ (0 ≤ x3 ∧ x3 ≤ 12) ∧ (0 ≤ y3 ∧ y3 ≤ 14) ∧ (0 ≤ x4 ∧ x4 ≤ 12) ∧ (0 ≤ y4 ∧ y4 ≤ 14) ∧ ivP 12 (-2) 11 Da1 ∧ ivP 12 (-2147483648) 2147483647 Sa1 ∧ ivP 48 (-2147483648) 2147483647 Qa1 ∧ ivP 12 (-2) 11 Da2 ∧ ivP 12 (-2147483648) 2147483647 Sa2 ∧ ivP 48 (-2147483648) 2147483647 Qa2 ∧ ivP 12 (-2) 11 Da3 ∧ ivP 12 (-2147483648) 2147483647 Sa3 ∧ ivP 48 (-2147483648) 2147483647 Qa3 ∧ ivP 12 (-2) 11 Da4 ∧ ivP 12 (-2147483648) 2147483647 Sa4 ∧ ivP 48 (-2147483648) 2147483647 Qa4 := hg
  obtain ⟨hkk, hkb, hx1, hy1_, hx2, hy2_, hx3, hy3_, hx4, hy4_, hDa1, hSa1, hQa1, hDa2, hSa2, hQa2, hDa3, hSa3, hQa3, hDa4, hSa4, hQa4⟩ := hg
  have hC : TH (eC l G k tC aX aV) (tbC (dayD (.inl (0, 18))) (dayD (.inl (0, 18))) (riverD (.inl (x1, x1)) (.inl (y1, y1)) (.inl (0, 4)) 31 33 35 39 43 47) (riverD (.inl (x2, x2)) (.inl (y2, y2)) (.inl (0, 4)) 32 34 36 40 44 48) (rcD (.inl (t, t)) (.inr kr) (.inr ks) (.inl (kb, kb))) (rdD (.inl (0, 400)) (.inl (0, 400)) (.inl (0, 4000)) (.inl (0, 1)) (.inr [26, 27])) (xB 400 T) A14F A14F A4F A4F A14F A14F (riverD (.inl (x3, x3)) (.inl (y3, y3)) (.inl (0, 4)) 3 8 3 41 45 49) (riverD (.inl (x4, x4)) (.inl (y4, y4)) (.inl (0, 4)) 3 8 3 42 46 50) (xD 12 Da1) (xD 12 Da2) (xD 12 Da3) (xD 12 Da4) (xD 12 Sa1) (xD 12 Sa2) (xD 12 Sa3) (xD 12 Sa4) (xD 48 Qa1) (xD 48 Qa2) (xD 48 Qa3) (xD 48 Qa4)) H := hC
  have hTie : (kr = [26] → rowT x1 Da1 Sa1 Qa1 Z) ∧ (kr = [27] → rowT x2 Da2 Sa2 Qa2 Z) ∧ gI K0 0 = kb % 2 ∧ gI K0 1 = kb / 2 ∧ (kb % 2 = 1 → rowT x3 Da3 Sa3 Qa3 Y0) ∧ (kb / 2 = 1 → rowT x4 Da4 Sa4 Qa4 Y1) := hTie0
  clear hTie0
  have hk1 : (i + 1).toInt = i.toInt + 1 := by
    have h1 := i_add (x := i) (y := 1) (by rw [show (1 : Int32).toInt = 1 by decide]; omega) (by rw [show (1 : Int32).toInt = 1 by decide]; omega)
    rw [show (1 : Int32).toInt = 1 by decide] at h1
    exact h1
  have hk2 : (i + 2).toInt = i.toInt + 2 := by
    have h1 := i_add (x := i) (y := 2) (by rw [show (2 : Int32).toInt = 2 by decide]; omega) (by rw [show (2 : Int32).toInt = 2 by decide]; omega)
    rw [show (2 : Int32).toInt = 2 by decide] at h1
    exact h1
  have hk3 : (i + 3).toInt = i.toInt + 3 := by
    have h1 := i_add (x := i) (y := 3) (by rw [show (3 : Int32).toInt = 3 by decide]; omega) (by rw [show (3 : Int32).toInt = 3 by decide]; omega)
    rw [show (3 : Int32).toInt = 3 by decide] at h1
    exact h1
  have hk4 : (i + 4).toInt = i.toInt + 4 := by
    have h1 := i_add (x := i) (y := 4) (by rw [show (4 : Int32).toInt = 4 by decide]; omega) (by rw [show (4 : Int32).toInt = 4 by decide]; omega)
    rw [show (4 : Int32).toInt = 4 by decide] at h1
    exact h1
  have hk5 : (i + 5).toInt = i.toInt + 5 := by
    have h1 := i_add (x := i) (y := 5) (by rw [show (5 : Int32).toInt = 5 by decide]; omega) (by rw [show (5 : Int32).toInt = 5 by decide]; omega)
    rw [show (5 : Int32).toInt = 5 by decide] at h1
    exact h1
  refine lv_aload_n hx hb dL_law_220 rfl (lv_at hl 2 rfl) ?_
  refine lv_aload_n hx hb dL_law_221 rfl (lv_at hl 3 rfl) ?_
  refine lv_iload_n hx hb dL_law_222 rfl (lv_at hl 0 rfl) ?_
  refine lv_iconst (v := 1) hx hb dL_law_223 (by decide) ?_
  refine lv_iadd hx hb dL_law_224 ?_
  refine va_sld hx hb hX hbl hbA hS (vinT (by rw [hk1]; omega)) dL_law_225 ?_
  refine lv_topi (fun a1_0 ea1_0 => ?_)
  refine lv_aload_n hx hb dL_law_226 rfl (lv_at hl 3 rfl) ?_
  refine lv_iload_n hx hb dL_law_227 rfl (lv_at hl 0 rfl) ?_
  refine lv_iconst (v := 2) hx hb dL_law_228 (by decide) ?_
  refine lv_iadd hx hb dL_law_229 ?_
  refine va_sld hx hb hX hbl hbA hS (vinT (by rw [hk2]; omega)) dL_law_230 ?_
  refine lv_topi (fun a2_0 ea2_0 => ?_)
  refine lv_aload_n hx hb dL_law_231 rfl (lv_at hl 3 rfl) ?_
  refine lv_iload_n hx hb dL_law_232 rfl (lv_at hl 0 rfl) ?_
  refine lv_iconst (v := 3) hx hb dL_law_233 (by decide) ?_
  refine lv_iadd hx hb dL_law_234 ?_
  refine va_sld hx hb hX hbl hbA hS (vinT (by rw [hk3]; omega)) dL_law_235 ?_
  refine lv_topi (fun a3_0 ea3_0 => ?_)
  refine lv_aload_n hx hb dL_law_236 rfl (lv_at hl 3 rfl) ?_
  refine lv_iload_n hx hb dL_law_237 rfl (lv_at hl 0 rfl) ?_
  refine lv_iconst (v := 4) hx hb dL_law_238 (by decide) ?_
  refine lv_iadd hx hb dL_law_239 ?_
  refine va_sld hx hb hX hbl hbA hS (vinT (by rw [hk4]; omega)) dL_law_240 ?_
  refine lv_topi (fun a4_0 ea4_0 => ?_)
  refine lv_aload_n hx hb dL_law_241 rfl (lv_at hl 3 rfl) ?_
  refine lv_iload_n hx hb dL_law_242 rfl (lv_at hl 0 rfl) ?_
  refine lv_iconst (v := 5) hx hb dL_law_243 (by decide) ?_
  refine lv_iadd hx hb dL_law_244 ?_
  refine va_sld hx hb hX hbl hbA hS (vinT (by rw [hk5]; omega)) dL_law_245 ?_
  refine lv_topi (fun a5_0 ea5_0 => ?_)
  have hkr : ∀ t ∈ kr, t ∈ [26, 27] := by rcases hkk with ⟨h9_, -⟩ | ⟨h9_, -⟩ <;> rw [h9_] <;> decide
  have hks : ∀ t ∈ ks, t ∈ [26, 27] := by rcases hkk with ⟨-, h9_⟩ | ⟨-, h9_⟩ <;> rw [h9_] <;> decide
  refine lawVi (E := (eC l G k tC aX aV)) (b := h0) (As := [.int a1_0, .int a2_0, .int a3_0, .int a4_0, .int a5_0]) (rest := []) F hK hN hOc hTc (c_X6_feed (eC l G k tC aX aV) (dayD (.inl (0, 18))) (dayD (.inl (0, 18))) (riverD (.inl (x1, x1)) (.inl (y1, y1)) (.inl (0, 4)) 31 33 35 39 43 47) (riverD (.inl (x2, x2)) (.inl (y2, y2)) (.inl (0, 4)) 32 34 36 40 44 48) (rdD (.inl (0, 400)) (.inl (0, 400)) (.inl (0, 4000)) (.inl (0, 1)) (.inr [26, 27])) A14F A14F A4F A4F A14F A14F (riverD (.inl (x3, x3)) (.inl (y3, y3)) (.inl (0, 4)) 3 8 3 41 45 49) (riverD (.inl (x4, x4)) (.inl (y4, y4)) (.inl (0, 4)) 3 8 3 42 46 50) (xD 12 Da1) (xD 12 Da2) (xD 12 Da3) (xD 12 Da4) (xD 12 Sa1) (xD 12 Sa2) (xD 12 Sa3) (xD 12 Sa4) (xD 48 Qa1) (xD 48 Qa2) (xD 48 Qa3) (xD 48 Qa4) (kb, kb) kr ks t T h0 a1_0 a2_0 a3_0 a4_0 a5_0 (List.mem_singleton.mpr hh0) (by omega) hT8 hkr hks) mv_X6_feed wd_7_8 ⟨Nat.le_of_ble_eq_true rfl, Nat.le_of_ble_eq_true rfl⟩ ⟨Nat.le_of_ble_eq_true rfl, Nat.le_of_ble_eq_true rfl⟩ hC hS (tRecv hK hC (by rw [show eT (eC l G k tC aX aV) h0 = 28 from hh0]; rfl) clX6) rfl hl.1 (Nat.le_of_ble_eq_true rfl) dL_law_246 (fun v0 H1 locs hq hk_ hS => ?_)
  obtain ⟨t2_0, ht2_0, T2_0, hT2_0, f0_0, f0_1, hN_⟩ := hq
  have hM := keptM hdis hM hk_
  have hC : TH (eC l G k tC aX aV) (tbC (dayD (.inl (0, 18))) (dayD (.inl (0, 18))) (riverD (.inl (x1, x1)) (.inl (y1, y1)) (.inl (0, 4)) 31 33 35 39 43 47) (riverD (.inl (x2, x2)) (.inl (y2, y2)) (.inl (0, 4)) 32 34 36 40 44 48) (rcD (.inl (t2_0, t2_0)) (.inr kr) (.inr ks) (.inl (kb, kb))) (rdD (.inl (0, 400)) (.inl (0, 400)) (.inl (0, 4000)) (.inl (0, 1)) (.inr [26, 27])) (xB 400 T2_0) A14F A14F A4F A4F A14F A14F (riverD (.inl (x3, x3)) (.inl (y3, y3)) (.inl (0, 4)) 3 8 3 41 45 49) (riverD (.inl (x4, x4)) (.inl (y4, y4)) (.inl (0, 4)) 3 8 3 42 46 50) (xD 12 Da1) (xD 12 Da2) (xD 12 Da3) (xD 12 Da4) (xD 12 Sa1) (xD 12 Sa2) (xD 12 Sa3) (xD 12 Sa4) (xD 48 Qa1) (xD 48 Qa2) (xD 48 Qa3) (xD 48 Qa4)) H1 := hN_
  refine lv_pop hx hb dL_law_249 rfl ?_
  refine lv_aload_n hx hb dL_law_250 rfl (lv_at hl 1 rfl) ?_
  refine lv_aload_n hx hb dL_law_251 rfl (lv_at hl 3 rfl) ?_
  refine lv_iload_n hx hb dL_law_252 rfl (lv_at hl 0 rfl) ?_
  refine lv_iconst (v := 1) hx hb dL_law_253 (by decide) ?_
  refine lv_iadd hx hb dL_law_254 ?_
  refine va_sld hx hb hX hbl hbA hS (vinT (by rw [hk1]; omega)) dL_law_255 ?_
  refine lv_topi (fun a1_1 ea1_1 => ?_)
  obtain rfl : a1_0 = a1_1 := ea1_0.trans ea1_1.symm
  refine lv_aload_n hx hb dL_law_256 rfl (lv_at hl 3 rfl) ?_
  refine lv_iload_n hx hb dL_law_257 rfl (lv_at hl 0 rfl) ?_
  refine lv_iconst (v := 2) hx hb dL_law_258 (by decide) ?_
  refine lv_iadd hx hb dL_law_259 ?_
  refine va_sld hx hb hX hbl hbA hS (vinT (by rw [hk2]; omega)) dL_law_260 ?_
  refine lv_topi (fun a2_1 ea2_1 => ?_)
  obtain rfl : a2_0 = a2_1 := ea2_0.trans ea2_1.symm
  refine lv_aload_n hx hb dL_law_261 rfl (lv_at hl 3 rfl) ?_
  refine lv_iload_n hx hb dL_law_262 rfl (lv_at hl 0 rfl) ?_
  refine lv_iconst (v := 3) hx hb dL_law_263 (by decide) ?_
  refine lv_iadd hx hb dL_law_264 ?_
  refine va_sld hx hb hX hbl hbA hS (vinT (by rw [hk3]; omega)) dL_law_265 ?_
  refine lv_topi (fun a3_1 ea3_1 => ?_)
  obtain rfl : a3_0 = a3_1 := ea3_0.trans ea3_1.symm
  refine lv_aload_n hx hb dL_law_266 rfl (lv_at hl 3 rfl) ?_
  refine lv_iload_n hx hb dL_law_267 rfl (lv_at hl 0 rfl) ?_
  refine lv_iconst (v := 4) hx hb dL_law_268 (by decide) ?_
  refine lv_iadd hx hb dL_law_269 ?_
  refine va_sld hx hb hX hbl hbA hS (vinT (by rw [hk4]; omega)) dL_law_270 ?_
  refine lv_topi (fun a4_1 ea4_1 => ?_)
  obtain rfl : a4_0 = a4_1 := ea4_0.trans ea4_1.symm
  refine lv_aload_n hx hb dL_law_271 rfl (lv_at hl 3 rfl) ?_
  refine lv_iload_n hx hb dL_law_272 rfl (lv_at hl 0 rfl) ?_
  refine lv_iconst (v := 5) hx hb dL_law_273 (by decide) ?_
  refine lv_iadd hx hb dL_law_274 ?_
  refine va_sld hx hb hX hbl hbA hS (vinT (by rw [hk5]; omega)) dL_law_275 ?_
  refine lv_topi (fun a5_1 ea5_1 => ?_)
  obtain rfl : a5_0 = a5_1 := ea5_0.trans ea5_1.symm
  refine lawVi (E := (eM l G k tM aX aV)) (b := g0) (As := [.int a1_0, .int a2_0, .int a3_0, .int a4_0, .int a5_0]) (rest := []) F hK hN hOm hTm (c_X7_feed (eM l G k tM aX aV) (xD 660 X0) (xD 6600 W0) (xD 1320 V0) (xD 660 A0) (xD 660 B1) m_second (xZ 2 K0) (u, u) (0, 18) (((-2147483648), 2147483647)) (((-2147483648), 2147483647)) (0, 4000) (((-2147483648), 2147483647)) (((-2147483648), 2147483647)) (0, 1) t T g0 a1_0 a2_0 a3_0 a4_0 a5_0 (List.mem_singleton.mpr hg0) (by omega) hT8) mv_X7_feed wd_7_17 ⟨Nat.le_of_ble_eq_true rfl, Nat.le_of_ble_eq_true rfl⟩ ⟨Nat.le_of_ble_eq_true rfl, Nat.le_of_ble_eq_true rfl⟩ hM hS (tRecv hK hM (by rw [show eT (eM l G k tM aX aV) g0 = 24 from hg0]; rfl) clX7) rfl hl.1 (Nat.le_of_ble_eq_true rfl) dL_law_276 (fun v1 H1 locs hq hk_ hS => ?_)
  obtain ⟨t2_1, ht2_1, T2_1, hT2_1, f1_0, f1_1, hN_⟩ := hq
  have hC := keptC hdis hC hk_
  have hM : TH (eM l G k tM aX aV) (tbM (mD (.inl (t2_1, t2_1)) (.inl (-2147483648, 2147483647)) (.inl (-2147483648, 2147483647)) (.inl (u, u)) (.inl (0, 18)) (.inl (-2147483648, 2147483647)) (.inl (0, 4000)) (.inl (-2147483648, 2147483647)) (.inl (0, 1))) (xD 660 X0) (xD 6600 W0) (xD 1320 V0) (xD 660 A0) (xD 660 B1) m_second (xB 400 T2_1) (xZ 2 K0)) H1 := hN_
  refine lv_pop hx hb dL_law_279 rfl ?_
  refine lv_goto (tgt := 1529) hx hb dL_law_280 (by decide) ?_
  have et_ : t2_1 = t2_0 := by omega
  rw [et_] at hM
  have eT_ : T2_1 = T2_0 := hT2_1.2.trans hT2_0.2.symm
  rw [eT_] at hM
  have hG_ : ((kr = [26] ∧ ks = [27]) ∨ (kr = [27] ∧ ks = [26])) ∧ (0 ≤ kb ∧ kb ≤ 3) ∧ (0 ≤ x1 ∧ x1 ≤ 12) ∧ (0 ≤ y1 ∧ y1 ≤ 14) ∧ (0 ≤ x2 ∧ x2 ≤ 12) ∧ (0 ≤ y2 ∧ y2 ≤ 14) ∧ (0 ≤ x3 ∧ x3 ≤ 12) ∧ (0 ≤ y3 ∧ y3 ≤ 14) ∧ (0 ≤ x4 ∧ x4 ≤ 12) ∧ (0 ≤ y4 ∧ y4 ≤ 14) ∧ ivP 12 (-2) 11 Da1 ∧ ivP 12 (-2147483648) 2147483647 Sa1 ∧ ivP 48 (-2147483648) 2147483647 Qa1 ∧ ivP 12 (-2) 11 Da2 ∧ ivP 12 (-2147483648) 2147483647 Sa2 ∧ ivP 48 (-2147483648) 2147483647 Qa2 ∧ ivP 12 (-2) 11 Da3 ∧ ivP 12 (-2147483648) 2147483647 Sa3 ∧ ivP 48 (-2147483648) 2147483647 Qa3 ∧ ivP 12 (-2) 11 Da4 ∧ ivP 12 (-2147483648) 2147483647 Sa4 ∧ ivP 48 (-2147483648) 2147483647 Qa4 := ⟨hkk, (by omega), (by omega), (by omega), (by omega), (by omega), (by omega), (by omega), (by omega), (by omega), hDa1, hSa1, hQa1, hDa2, hSa2, hQa2, hDa3, hSa3, hQa3, hDa4, hSa4, hQa4⟩
  exact hend t2_0 T2_0 (kr, ks, kb, x1, y1, x2, y2, x3, y3, x4, y4, Da1, Sa1, Qa1, Da2, Sa2, Qa2, Da3, Sa3, Qa3, Da4, Sa4, Qa4) _ _ ⟨(by omega), hT2_0.1⟩ hG_ hC ⟨X0, W0, V0, A0, B1, K0, Z, Y0, Y1, u, (by omega), hX0, hW0, hV0, hA0, hK0, hqX0, hmW0, hy0, hy1, hTie, hM⟩ hS
set_option maxHeartbeats 4000000 in
set_option maxRecDepth 100000 in
theorem law_c1 {pg_ : Program} {l : Launch} {ev_ : Env} {s : State} {mi_ : MethodId} {below_ : List Frame} {meth : Method} {cd_ : Code} {H : Heap} {locs : List Loc} {ls : Array Slot} {b L : Nat} {xs : Nat → Int32} {G : va_G} {k : Nat → ClassId} {tC tM aX aV : Nat → Nat} {h0 g0 : Nat} {i : Int32} {t : Int} {T : RwF} {g : Gs} (B0 : LB pg_ s mi_ meth cd_ b L xs l G k tC tM aX aV h0 g0) (hi : 0 ≤ i.toInt ∧ i.toInt + 6 ≤ L) (ht : (0 ≤ t ∧ t ≤ 400) ∧ ivP 400 (-128) 127 T) (hg : Gok g) (hC : Cs (eC l G k tC aX aV) t T g H) (hMs : Ms (eM l G k tM aX aV) t T g H) (hS : va_S (lawA s) s.heap H locs) (hl : lv_has ls 4 [(3, .int i), (2, .ref g0), (1, .ref h0), (0, .ref b)]) (hend : ∀ (t : Int) (T : RwF) (g : Gs) (H : Heap) (locs : List Loc), ((0 ≤ t ∧ t ≤ 400) ∧ ivP 400 (-128) 127 T) → Gok g → Cs (eC l G k tC aX aV) t T g H → Ms (eM l G k tM aX aV) t T g H → va_S (lawA s) s.heap H locs → W pg_ l ev_ room_1 s mi_ #[Value.ref b] below_ meth cd_ H locs 294 18964 (lw_Z below_ #[Value.ref b] s) (F0 mi_ 1529 ls [])) : W pg_ l ev_ room_1 s mi_ #[Value.ref b] below_ meth cd_ H locs 294 18964 (lw_Z below_ #[Value.ref b] s) (F0 mi_ 283 ls []) := by
  obtain ⟨F, hK, hN, hOc, hOm, hX, hbl, hL, hTc, hTm, hdis, hh0, hg0⟩ := id B0
  obtain ⟨hx, hb, hr, hml, hown, hlk, hw, -⟩ := id F
  have hbA : ¬ lawA s b := fun q => absurd q (by unfold lawA; omega)
  obtain ⟨kr, ks, kb, x1, y1, x2, y2, x3, y3, x4, y4, Da1, Sa1, Qa1, Da2, Sa2, Qa2, Da3, Sa3, Qa3, Da4, Sa4, Qa4⟩ := g
  obtain ⟨X0, W0, V0, A0, B1, K0, Z, Y0, Y1, u, hu, hX0, hW0, hV0, hA0, hK0, hqX0, hmW0, hy0, hy1, hTie0, hM⟩ := hMs
  obtain ⟨ht, hT8⟩ := ht
  have hg : ((kr = [26] ∧ ks = [27]) ∨ (kr = [27] ∧ ks = [26])) ∧ (0 ≤ kb ∧ kb ≤ 3) ∧ (0 ≤ x1 ∧ x1 ≤ 12) ∧ (0 ≤ y1 ∧ y1 ≤ 14) ∧ (0 ≤ x2 ∧ x2 ≤ 12) ∧ (0 ≤ y2 ∧ y2 ≤ 14) ∧ (0 ≤ x3 ∧ x3 ≤ 12) ∧ (0 ≤ y3 ∧ y3 ≤ 14) ∧ (0 ≤ x4 ∧ x4 ≤ 12) ∧ (0 ≤ y4 ∧ y4 ≤ 14) ∧ ivP 12 (-2) 11 Da1 ∧ ivP 12 (-2147483648) 2147483647 Sa1 ∧ ivP 48 (-2147483648) 2147483647 Qa1 ∧ ivP 12 (-2) 11 Da2 ∧ ivP 12 (-2147483648) 2147483647 Sa2 ∧ ivP 48 (-2147483648) 2147483647 Qa2 ∧ ivP 12 (-2) 11 Da3 ∧ ivP 12 (-2147483648) 2147483647 Sa3 ∧ ivP 48 (-2147483648) 2147483647 Qa3 ∧ ivP 12 (-2) 11 Da4 ∧ ivP 12 (-2147483648) 2147483647 Sa4 ∧ ivP 48 (-2147483648) 2147483647 Qa4 := hg
  obtain ⟨hkk, hkb, hx1, hy1_, hx2, hy2_, hx3, hy3_, hx4, hy4_, hDa1, hSa1, hQa1, hDa2, hSa2, hQa2, hDa3, hSa3, hQa3, hDa4, hSa4, hQa4⟩ := hg
  have hC : TH (eC l G k tC aX aV) (tbC (dayD (.inl (0, 18))) (dayD (.inl (0, 18))) (riverD (.inl (x1, x1)) (.inl (y1, y1)) (.inl (0, 4)) 31 33 35 39 43 47) (riverD (.inl (x2, x2)) (.inl (y2, y2)) (.inl (0, 4)) 32 34 36 40 44 48) (rcD (.inl (t, t)) (.inr kr) (.inr ks) (.inl (kb, kb))) (rdD (.inl (0, 400)) (.inl (0, 400)) (.inl (0, 4000)) (.inl (0, 1)) (.inr [26, 27])) (xB 400 T) A14F A14F A4F A4F A14F A14F (riverD (.inl (x3, x3)) (.inl (y3, y3)) (.inl (0, 4)) 3 8 3 41 45 49) (riverD (.inl (x4, x4)) (.inl (y4, y4)) (.inl (0, 4)) 3 8 3 42 46 50) (xD 12 Da1) (xD 12 Da2) (xD 12 Da3) (xD 12 Da4) (xD 12 Sa1) (xD 12 Sa2) (xD 12 Sa3) (xD 12 Sa4) (xD 48 Qa1) (xD 48 Qa2) (xD 48 Qa3) (xD 48 Qa4)) H := hC
  have hTie : (kr = [26] → rowT x1 Da1 Sa1 Qa1 Z) ∧ (kr = [27] → rowT x2 Da2 Sa2 Qa2 Z) ∧ gI K0 0 = kb % 2 ∧ gI K0 1 = kb / 2 ∧ (kb % 2 = 1 → rowT x3 Da3 Sa3 Qa3 Y0) ∧ (kb / 2 = 1 → rowT x4 Da4 Sa4 Qa4 Y1) := hTie0
  clear hTie0
  have hk1 : (i + 1).toInt = i.toInt + 1 := by
    have h1 := i_add (x := i) (y := 1) (by rw [show (1 : Int32).toInt = 1 by decide]; omega) (by rw [show (1 : Int32).toInt = 1 by decide]; omega)
    rw [show (1 : Int32).toInt = 1 by decide] at h1
    exact h1
  refine lv_aload_n hx hb dL_law_283 rfl (lv_at hl 2 rfl) ?_
  refine lv_aload_n hx hb dL_law_284 rfl (lv_at hl 3 rfl) ?_
  refine lv_iload_n hx hb dL_law_285 rfl (lv_at hl 0 rfl) ?_
  refine lv_iconst (v := 1) hx hb dL_law_286 (by decide) ?_
  refine lv_iadd hx hb dL_law_287 ?_
  refine va_sld hx hb hX hbl hbA hS (vinT (by rw [hk1]; omega)) dL_law_288 ?_
  refine lv_topi (fun a1_0 ea1_0 => ?_)
  have hkr : ∀ t ∈ kr, t ∈ [26, 27] := by rcases hkk with ⟨h9_, -⟩ | ⟨h9_, -⟩ <;> rw [h9_] <;> decide
  have hks : ∀ t ∈ ks, t ∈ [26, 27] := by rcases hkk with ⟨-, h9_⟩ | ⟨-, h9_⟩ <;> rw [h9_] <;> decide
  refine lawVi (E := (eC l G k tC aX aV)) (b := h0) (As := [.int a1_0]) (rest := []) F hK hN hOc hTc (c_X6_end (eC l G k tC aX aV) (dayD (.inl (0, 18))) (dayD (.inl (0, 18))) (riverD (.inl (x1, x1)) (.inl (y1, y1)) (.inl (0, 4)) 31 33 35 39 43 47) (riverD (.inl (x2, x2)) (.inl (y2, y2)) (.inl (0, 4)) 32 34 36 40 44 48) (rdD (.inl (0, 400)) (.inl (0, 400)) (.inl (0, 4000)) (.inl (0, 1)) (.inr [26, 27])) (xB 400 T) A14F A14F A4F A4F A14F A14F (riverD (.inl (x3, x3)) (.inl (y3, y3)) (.inl (0, 4)) 3 8 3 41 45 49) (riverD (.inl (x4, x4)) (.inl (y4, y4)) (.inl (0, 4)) 3 8 3 42 46 50) (xD 12 Da1) (xD 12 Da2) (xD 12 Da3) (xD 12 Da4) (xD 12 Sa1) (xD 12 Sa2) (xD 12 Sa3) (xD 12 Sa4) (xD 48 Qa1) (xD 48 Qa2) (xD 48 Qa3) (xD 48 Qa4) (kb, kb) kr ks t h0 a1_0 (List.mem_singleton.mpr hh0) (by omega) hkr hks) mv_X6_end wd_8_2 ⟨Nat.le_of_ble_eq_true rfl, Nat.le_of_ble_eq_true rfl⟩ ⟨Nat.le_of_ble_eq_true rfl, Nat.le_of_ble_eq_true rfl⟩ hC hS (tRecv hK hC (by rw [show eT (eC l G k tC aX aV) h0 = 28 from hh0]; rfl) clX6) rfl hl.1 (Nat.le_of_ble_eq_true rfl) dL_law_289 (fun v0 H1 locs hq hk_ hS => ?_)
  obtain ⟨t2_0, ht2_0, f0_0, f0_1, hN_⟩ := hq
  have hM := keptM hdis hM hk_
  have hC : TH (eC l G k tC aX aV) (tbC (dayD (.inl (0, 18))) (dayD (.inl (0, 18))) (riverD (.inl (x1, x1)) (.inl (y1, y1)) (.inl (0, 4)) 31 33 35 39 43 47) (riverD (.inl (x2, x2)) (.inl (y2, y2)) (.inl (0, 4)) 32 34 36 40 44 48) (rcD (.inl (t2_0, t2_0)) (.inr kr) (.inr ks) (.inl (kb, kb))) (rdD (.inl (0, 400)) (.inl (0, 400)) (.inl (0, 4000)) (.inl (0, 1)) (.inr [26, 27])) (xB 400 T) A14F A14F A4F A4F A14F A14F (riverD (.inl (x3, x3)) (.inl (y3, y3)) (.inl (0, 4)) 3 8 3 41 45 49) (riverD (.inl (x4, x4)) (.inl (y4, y4)) (.inl (0, 4)) 3 8 3 42 46 50) (xD 12 Da1) (xD 12 Da2) (xD 12 Da3) (xD 12 Da4) (xD 12 Sa1) (xD 12 Sa2) (xD 12 Sa3) (xD 12 Sa4) (xD 48 Qa1) (xD 48 Qa2) (xD 48 Qa3) (xD 48 Qa4)) H1 := hN_
  refine lv_pop hx hb dL_law_292 rfl ?_
  refine lv_aload_n hx hb dL_law_293 rfl (lv_at hl 1 rfl) ?_
  refine lv_aload_n hx hb dL_law_294 rfl (lv_at hl 3 rfl) ?_
  refine lv_iload_n hx hb dL_law_295 rfl (lv_at hl 0 rfl) ?_
  refine lv_iconst (v := 1) hx hb dL_law_296 (by decide) ?_
  refine lv_iadd hx hb dL_law_297 ?_
  refine va_sld hx hb hX hbl hbA hS (vinT (by rw [hk1]; omega)) dL_law_298 ?_
  refine lv_topi (fun a1_1 ea1_1 => ?_)
  obtain rfl : a1_0 = a1_1 := ea1_0.trans ea1_1.symm
  refine lawVi (E := (eM l G k tM aX aV)) (b := g0) (As := [.int a1_0]) (rest := []) F hK hN hOm hTm (c_X7_end (eM l G k tM aX aV) (xD 660 X0) (xD 6600 W0) (xD 1320 V0) (xD 660 A0) (xD 660 B1) m_second (xB 400 T) (xZ 2 K0) (u, u) (0, 18) (((-2147483648), 2147483647)) (((-2147483648), 2147483647)) (0, 4000) (((-2147483648), 2147483647)) (((-2147483648), 2147483647)) (0, 1) t g0 a1_0 (List.mem_singleton.mpr hg0) (by omega)) mv_X7_end wd_8_6 ⟨Nat.le_of_ble_eq_true rfl, Nat.le_of_ble_eq_true rfl⟩ ⟨Nat.le_of_ble_eq_true rfl, Nat.le_of_ble_eq_true rfl⟩ hM hS (tRecv hK hM (by rw [show eT (eM l G k tM aX aV) g0 = 24 from hg0]; rfl) clX7) rfl hl.1 (Nat.le_of_ble_eq_true rfl) dL_law_299 (fun v1 H1 locs hq hk_ hS => ?_)
  obtain ⟨t2_1, ht2_1, f1_0, f1_1, hN_⟩ := hq
  have hC := keptC hdis hC hk_
  have hM : TH (eM l G k tM aX aV) (tbM (mD (.inl (t2_1, t2_1)) (.inl (-2147483648, 2147483647)) (.inl (-2147483648, 2147483647)) (.inl (u, u)) (.inl (0, 18)) (.inl (-2147483648, 2147483647)) (.inl (0, 4000)) (.inl (-2147483648, 2147483647)) (.inl (0, 1))) (xD 660 X0) (xD 6600 W0) (xD 1320 V0) (xD 660 A0) (xD 660 B1) m_second (xB 400 T) (xZ 2 K0)) H1 := hN_
  refine lv_pop hx hb dL_law_302 rfl ?_
  refine lv_goto (tgt := 1529) hx hb dL_law_303 (by decide) ?_
  have et_ : t2_1 = t2_0 := by omega
  rw [et_] at hM
  have hG_ : ((kr = [26] ∧ ks = [27]) ∨ (kr = [27] ∧ ks = [26])) ∧ (0 ≤ kb ∧ kb ≤ 3) ∧ (0 ≤ x1 ∧ x1 ≤ 12) ∧ (0 ≤ y1 ∧ y1 ≤ 14) ∧ (0 ≤ x2 ∧ x2 ≤ 12) ∧ (0 ≤ y2 ∧ y2 ≤ 14) ∧ (0 ≤ x3 ∧ x3 ≤ 12) ∧ (0 ≤ y3 ∧ y3 ≤ 14) ∧ (0 ≤ x4 ∧ x4 ≤ 12) ∧ (0 ≤ y4 ∧ y4 ≤ 14) ∧ ivP 12 (-2) 11 Da1 ∧ ivP 12 (-2147483648) 2147483647 Sa1 ∧ ivP 48 (-2147483648) 2147483647 Qa1 ∧ ivP 12 (-2) 11 Da2 ∧ ivP 12 (-2147483648) 2147483647 Sa2 ∧ ivP 48 (-2147483648) 2147483647 Qa2 ∧ ivP 12 (-2) 11 Da3 ∧ ivP 12 (-2147483648) 2147483647 Sa3 ∧ ivP 48 (-2147483648) 2147483647 Qa3 ∧ ivP 12 (-2) 11 Da4 ∧ ivP 12 (-2147483648) 2147483647 Sa4 ∧ ivP 48 (-2147483648) 2147483647 Qa4 := ⟨hkk, (by omega), (by omega), (by omega), (by omega), (by omega), (by omega), (by omega), (by omega), (by omega), hDa1, hSa1, hQa1, hDa2, hSa2, hQa2, hDa3, hSa3, hQa3, hDa4, hSa4, hQa4⟩
  exact hend t2_0 T (kr, ks, kb, x1, y1, x2, y2, x3, y3, x4, y4, Da1, Sa1, Qa1, Da2, Sa2, Qa2, Da3, Sa3, Qa3, Da4, Sa4, Qa4) _ _ ⟨(by omega), hT8⟩ hG_ hC ⟨X0, W0, V0, A0, B1, K0, Z, Y0, Y1, u, (by omega), hX0, hW0, hV0, hA0, hK0, hqX0, hmW0, hy0, hy1, hTie, hM⟩ hS
set_option maxHeartbeats 4000000 in
set_option maxRecDepth 100000 in
theorem law_c2 {pg_ : Program} {l : Launch} {ev_ : Env} {s : State} {mi_ : MethodId} {below_ : List Frame} {meth : Method} {cd_ : Code} {H : Heap} {locs : List Loc} {ls : Array Slot} {b L : Nat} {xs : Nat → Int32} {G : va_G} {k : Nat → ClassId} {tC tM aX aV : Nat → Nat} {h0 g0 : Nat} {i : Int32} {t : Int} {T : RwF} {g : Gs} (B0 : LB pg_ s mi_ meth cd_ b L xs l G k tC tM aX aV h0 g0) (hi : 0 ≤ i.toInt ∧ i.toInt + 6 ≤ L) (ht : (0 ≤ t ∧ t ≤ 400) ∧ ivP 400 (-128) 127 T) (hg : Gok g) (hC : Cs (eC l G k tC aX aV) t T g H) (hMs : Ms (eM l G k tM aX aV) t T g H) (hS : va_S (lawA s) s.heap H locs) (hl : lv_has ls 4 [(3, .int i), (2, .ref g0), (1, .ref h0), (0, .ref b)]) (hend : ∀ (t : Int) (T : RwF) (g : Gs) (H : Heap) (locs : List Loc), ((0 ≤ t ∧ t ≤ 400) ∧ ivP 400 (-128) 127 T) → Gok g → Cs (eC l G k tC aX aV) t T g H → Ms (eM l G k tM aX aV) t T g H → va_S (lawA s) s.heap H locs → W pg_ l ev_ room_1 s mi_ #[Value.ref b] below_ meth cd_ H locs 294 18964 (lw_Z below_ #[Value.ref b] s) (F0 mi_ 1529 ls [])) : W pg_ l ev_ room_1 s mi_ #[Value.ref b] below_ meth cd_ H locs 294 18964 (lw_Z below_ #[Value.ref b] s) (F0 mi_ 306 ls []) := by
  obtain ⟨F, hK, hN, hOc, hOm, hX, hbl, hL, hTc, hTm, hdis, hh0, hg0⟩ := id B0
  obtain ⟨hx, hb, hr, hml, hown, hlk, hw, -⟩ := id F
  have hbA : ¬ lawA s b := fun q => absurd q (by unfold lawA; omega)
  obtain ⟨kr, ks, kb, x1, y1, x2, y2, x3, y3, x4, y4, Da1, Sa1, Qa1, Da2, Sa2, Qa2, Da3, Sa3, Qa3, Da4, Sa4, Qa4⟩ := g
  obtain ⟨X0, W0, V0, A0, B1, K0, Z, Y0, Y1, u, hu, hX0, hW0, hV0, hA0, hK0, hqX0, hmW0, hy0, hy1, hTie0, hM⟩ := hMs
  obtain ⟨ht, hT8⟩ := ht
  have hg : ((kr = [26] ∧ ks = [27]) ∨ (kr = [27] ∧ ks = [26])) ∧ (0 ≤ kb ∧ kb ≤ 3) ∧ (0 ≤ x1 ∧ x1 ≤ 12) ∧ (0 ≤ y1 ∧ y1 ≤ 14) ∧ (0 ≤ x2 ∧ x2 ≤ 12) ∧ (0 ≤ y2 ∧ y2 ≤ 14) ∧ (0 ≤ x3 ∧ x3 ≤ 12) ∧ (0 ≤ y3 ∧ y3 ≤ 14) ∧ (0 ≤ x4 ∧ x4 ≤ 12) ∧ (0 ≤ y4 ∧ y4 ≤ 14) ∧ ivP 12 (-2) 11 Da1 ∧ ivP 12 (-2147483648) 2147483647 Sa1 ∧ ivP 48 (-2147483648) 2147483647 Qa1 ∧ ivP 12 (-2) 11 Da2 ∧ ivP 12 (-2147483648) 2147483647 Sa2 ∧ ivP 48 (-2147483648) 2147483647 Qa2 ∧ ivP 12 (-2) 11 Da3 ∧ ivP 12 (-2147483648) 2147483647 Sa3 ∧ ivP 48 (-2147483648) 2147483647 Qa3 ∧ ivP 12 (-2) 11 Da4 ∧ ivP 12 (-2147483648) 2147483647 Sa4 ∧ ivP 48 (-2147483648) 2147483647 Qa4 := hg
  obtain ⟨hkk, hkb, hx1, hy1_, hx2, hy2_, hx3, hy3_, hx4, hy4_, hDa1, hSa1, hQa1, hDa2, hSa2, hQa2, hDa3, hSa3, hQa3, hDa4, hSa4, hQa4⟩ := hg
  have hC : TH (eC l G k tC aX aV) (tbC (dayD (.inl (0, 18))) (dayD (.inl (0, 18))) (riverD (.inl (x1, x1)) (.inl (y1, y1)) (.inl (0, 4)) 31 33 35 39 43 47) (riverD (.inl (x2, x2)) (.inl (y2, y2)) (.inl (0, 4)) 32 34 36 40 44 48) (rcD (.inl (t, t)) (.inr kr) (.inr ks) (.inl (kb, kb))) (rdD (.inl (0, 400)) (.inl (0, 400)) (.inl (0, 4000)) (.inl (0, 1)) (.inr [26, 27])) (xB 400 T) A14F A14F A4F A4F A14F A14F (riverD (.inl (x3, x3)) (.inl (y3, y3)) (.inl (0, 4)) 3 8 3 41 45 49) (riverD (.inl (x4, x4)) (.inl (y4, y4)) (.inl (0, 4)) 3 8 3 42 46 50) (xD 12 Da1) (xD 12 Da2) (xD 12 Da3) (xD 12 Da4) (xD 12 Sa1) (xD 12 Sa2) (xD 12 Sa3) (xD 12 Sa4) (xD 48 Qa1) (xD 48 Qa2) (xD 48 Qa3) (xD 48 Qa4)) H := hC
  have hTie : (kr = [26] → rowT x1 Da1 Sa1 Qa1 Z) ∧ (kr = [27] → rowT x2 Da2 Sa2 Qa2 Z) ∧ gI K0 0 = kb % 2 ∧ gI K0 1 = kb / 2 ∧ (kb % 2 = 1 → rowT x3 Da3 Sa3 Qa3 Y0) ∧ (kb / 2 = 1 → rowT x4 Da4 Sa4 Qa4 Y1) := hTie0
  clear hTie0
  refine lv_aload_n hx hb dL_law_306 rfl (lv_at hl 2 rfl) ?_
  rcases hkk with ⟨rfl, rfl⟩ | ⟨rfl, rfl⟩
  · skip
    refine lawVi (E := (eC l G k tC aX aV)) (b := h0) (As := []) (rest := []) F hK hN hOc hTc (c_X6_tell_2 (eC l G k tC aX aV) (kb, kb) (x1, x1) (y1, y1) (x2, x2) (y2, y2) (x3, x3) (y3, y3) (x4, x4) (y4, y4) (fun f_ => f_ = Da1) (fun f_ => f_ = Da3) (fun f_ => f_ = Da4) (fun f_ => f_ = Sa1) (fun f_ => f_ = Sa3) (fun f_ => f_ = Sa4) (fun f_ => f_ = Qa1) (fun f_ => f_ = Qa3) (fun f_ => f_ = Qa4) t T Da2 Sa2 Qa2 h0 (List.mem_singleton.mpr hh0) (by omega) hT8 hDa2 hSa2 hQa2 (by show 0 ≤ x1 ∧ x1 ≤ 12; omega) (by show 0 ≤ y1 ∧ y1 ≤ 14; omega) (by show 0 ≤ x2 ∧ x2 ≤ 12; omega) (by show 0 ≤ y2 ∧ y2 ≤ 14; omega) (by show 0 ≤ x3 ∧ x3 ≤ 12; omega) (by show 0 ≤ y3 ∧ y3 ≤ 14; omega) (by show 0 ≤ x4 ∧ x4 ≤ 12; omega) (by show 0 ≤ y4 ∧ y4 ≤ 14; omega) (fun f_ h_ => ivX hDa1 h_) (fun f_ h_ => ivX hDa3 h_) (fun f_ h_ => ivX hDa4 h_) (fun f_ h_ => ivX hSa1 h_) (fun f_ h_ => ivX hSa3 h_) (fun f_ h_ => ivX hSa4 h_) (fun f_ h_ => ivX hQa1 h_) (fun f_ h_ => ivX hQa3 h_) (fun f_ h_ => ivX hQa4 h_)) mv_X6_tell wd_8_13 ⟨Nat.le_of_ble_eq_true rfl, Nat.le_of_ble_eq_true rfl⟩ ⟨Nat.le_of_ble_eq_true rfl, Nat.le_of_ble_eq_true rfl⟩ hC hS (tRecv hK hC (by rw [show eT (eC l G k tC aX aV) h0 = 28 from hh0]; rfl) clX6) rfl hl.1 (Nat.le_of_ble_eq_true rfl) dL_law_307 (fun v0 H1 locs hq hk_ hS => ?_)
    obtain ⟨a2_0, ha2_0, b2_0, hb2_0, D2_0, hD2_0, Kn2_0, hKn2_0, Q2_0, hQ2_0, f0_0, f0_1, f0_2, hN_⟩ := hq
    have hM := keptM hdis hM hk_
    rcases (by omega : v0.toInt < 0 ∨ 0 ≤ v0.toInt) with hneg | hneg
    · skip
      rw [tlr_n (x := v0.toInt) (a := 26) (b := 27) hneg, tlr_n (x := v0.toInt) (a := 27) (b := 26) hneg] at hN_
      have hC : TH (eC l G k tC aX aV) (tbC (dayD (.inl (0, 18))) (dayD (.inl (0, 18))) (riverD (.inl (x1, x1)) (.inl (y1, y1)) (.inl (0, 4)) 31 33 35 39 43 47) (riverD (.inl (a2_0, a2_0)) (.inl (b2_0, b2_0)) (.inl (0, 4)) 32 34 36 40 44 48) (rcD (.inl (0, 0)) (.inr [26]) (.inr [27]) (.inl (kb, kb))) (rdD (.inl (0, 400)) (.inl (0, 400)) (.inl (0, 4000)) (.inl (0, 1)) (.inr [26, 27])) (xB 400 T) A14F A14F A4F A4F A14F A14F (riverD (.inl (x3, x3)) (.inl (y3, y3)) (.inl (0, 4)) 3 8 3 41 45 49) (riverD (.inl (x4, x4)) (.inl (y4, y4)) (.inl (0, 4)) 3 8 3 42 46 50) (xD 12 Da1) (xD 12 D2_0) (xD 12 Da3) (xD 12 Da4) (xD 12 Sa1) (xD 12 Kn2_0) (xD 12 Sa3) (xD 12 Sa4) (xD 48 Qa1) (xD 48 Q2_0) (xD 48 Qa3) (xD 48 Qa4)) H1 := hN_
      refine lv_pop hx hb dL_law_310 rfl ?_
      refine lv_aload_n hx hb dL_law_311 rfl (lv_at hl 1 rfl) ?_
      refine lawVi (E := (eM l G k tM aX aV)) (b := g0) (As := []) (rest := []) F hK hN hOm hTm (c_X7_tell (eM l G k tM aX aV) (xD 6600 W0) (xD 1320 V0) (xD 660 A0) m_second (xZ 2 K0) (0, 18) (((-2147483648), 2147483647)) u t X0 B1 T g0 (List.mem_singleton.mpr hg0) (by omega) (by omega) hX0 hT8) mv_X7_tell wd_15_10 ⟨Nat.le_of_ble_eq_true rfl, Nat.le_of_ble_eq_true rfl⟩ ⟨Nat.le_of_ble_eq_true rfl, Nat.le_of_ble_eq_true rfl⟩ hM hS (tRecv hK hM (by rw [show eT (eM l G k tM aX aV) g0 = 24 from hg0]; rfl) clX7) rfl hl.1 (Nat.le_of_ble_eq_true rfl) dL_law_312 (fun v1 H1 locs hq hk_ hS => ?_)
      obtain ⟨u2_1, hu2_1, B2_1, hB2_1, X2_1, hX2_1, f1_0, f1_1, hN_⟩ := hq
      have hC := keptC hdis hC hk_
      have hM : TH (eM l G k tM aX aV) (tbM (mD (.inl (0, 0)) (.inl (-2147483648, 2147483647)) (.inl (-2147483648, 2147483647)) (.inl (u2_1, u2_1)) (.inl (0, 18)) (.inl (-2147483648, 2147483647)) (.inl (0, 4000)) (.inl (-2147483648, 2147483647)) (.inl (0, 1))) (xD 660 X2_1) (xD 6600 W0) (xD 1320 V0) (xD 660 A0) (xD 660 B2_1) m_second (xB 400 T) (xZ 2 K0)) H1 := hN_
      obtain ⟨R0_, S0_, h1_, hc_⟩ := f0_2
      obtain ⟨B0_, h2_, h3_, h4_⟩ := f1_1
      have hcmp : v0.toInt = v1.toInt := by
        rw [h1_, h3_]
        exact tells_alike (by omega) h2_
      obtain ⟨-, e3_, e4_⟩ : v1.toInt < 0 ∧ X2_1 = X0 ∧ u2_1 = u := hX2_1.2.elim id (fun h_ => absurd h_.1 (by omega))
      have hm_ : okM Z u2_1 W0 := by rw [e4_]; exact hmW0
      have hq_ : sQ Z X2_1 := by rw [e3_]; exact hqX0
      have hTie : ([26] = [26] → rowT x1 Da1 Sa1 Qa1 Z) ∧ ([26] = [27] → rowT a2_0 D2_0 Kn2_0 Q2_0 Z) ∧ gI K0 0 = kb % 2 ∧ gI K0 1 = kb / 2 ∧ (kb % 2 = 1 → rowT x3 Da3 Sa3 Qa3 Y0) ∧ (kb / 2 = 1 → rowT x4 Da4 Sa4 Qa4 Y1) := ⟨fun _ => (hTie.1 rfl), fun h_ => absurd h_ (by decide), hTie.2.2⟩
      refine lv_pop hx hb dL_law_315 rfl ?_
      refine lv_goto (tgt := 1529) hx hb dL_law_316 (by decide) ?_
      have hG_ : (([26] = [26] ∧ [27] = [27]) ∨ ([26] = [27] ∧ [27] = [26])) ∧ (0 ≤ kb ∧ kb ≤ 3) ∧ (0 ≤ x1 ∧ x1 ≤ 12) ∧ (0 ≤ y1 ∧ y1 ≤ 14) ∧ (0 ≤ a2_0 ∧ a2_0 ≤ 12) ∧ (0 ≤ b2_0 ∧ b2_0 ≤ 14) ∧ (0 ≤ x3 ∧ x3 ≤ 12) ∧ (0 ≤ y3 ∧ y3 ≤ 14) ∧ (0 ≤ x4 ∧ x4 ≤ 12) ∧ (0 ≤ y4 ∧ y4 ≤ 14) ∧ ivP 12 (-2) 11 Da1 ∧ ivP 12 (-2147483648) 2147483647 Sa1 ∧ ivP 48 (-2147483648) 2147483647 Qa1 ∧ ivP 12 (-2) 11 D2_0 ∧ ivP 12 (-2147483648) 2147483647 Kn2_0 ∧ ivP 48 (-2147483648) 2147483647 Q2_0 ∧ ivP 12 (-2) 11 Da3 ∧ ivP 12 (-2147483648) 2147483647 Sa3 ∧ ivP 48 (-2147483648) 2147483647 Qa3 ∧ ivP 12 (-2) 11 Da4 ∧ ivP 12 (-2147483648) 2147483647 Sa4 ∧ ivP 48 (-2147483648) 2147483647 Qa4 := ⟨(by decide), (by omega), (by omega), (by omega), (by omega), (by omega), (by omega), (by omega), (by omega), (by omega), hDa1, hSa1, hQa1, hD2_0, hKn2_0, hQ2_0, hDa3, hSa3, hQa3, hDa4, hSa4, hQa4⟩
      exact hend 0 T ([26], [27], kb, x1, y1, a2_0, b2_0, x3, y3, x4, y4, Da1, Sa1, Qa1, D2_0, Kn2_0, Q2_0, Da3, Sa3, Qa3, Da4, Sa4, Qa4) _ _ ⟨(by omega), hT8⟩ hG_ hC ⟨X2_1, W0, V0, A0, B2_1, K0, Z, Y0, Y1, u2_1, (by omega), hX2_1.1, hW0, hV0, hA0, hK0, hq_, hm_, hy0, hy1, hTie, hM⟩ hS
    · skip
      rw [tlr_p (x := v0.toInt) (a := 26) (b := 27) hneg, tlr_p (x := v0.toInt) (a := 27) (b := 26) hneg] at hN_
      have hC : TH (eC l G k tC aX aV) (tbC (dayD (.inl (0, 18))) (dayD (.inl (0, 18))) (riverD (.inl (x1, x1)) (.inl (y1, y1)) (.inl (0, 4)) 31 33 35 39 43 47) (riverD (.inl (a2_0, a2_0)) (.inl (b2_0, b2_0)) (.inl (0, 4)) 32 34 36 40 44 48) (rcD (.inl (0, 0)) (.inr [27]) (.inr [26]) (.inl (kb, kb))) (rdD (.inl (0, 400)) (.inl (0, 400)) (.inl (0, 4000)) (.inl (0, 1)) (.inr [26, 27])) (xB 400 T) A14F A14F A4F A4F A14F A14F (riverD (.inl (x3, x3)) (.inl (y3, y3)) (.inl (0, 4)) 3 8 3 41 45 49) (riverD (.inl (x4, x4)) (.inl (y4, y4)) (.inl (0, 4)) 3 8 3 42 46 50) (xD 12 Da1) (xD 12 D2_0) (xD 12 Da3) (xD 12 Da4) (xD 12 Sa1) (xD 12 Kn2_0) (xD 12 Sa3) (xD 12 Sa4) (xD 48 Qa1) (xD 48 Q2_0) (xD 48 Qa3) (xD 48 Qa4)) H1 := hN_
      refine lv_pop hx hb dL_law_310 rfl ?_
      refine lv_aload_n hx hb dL_law_311 rfl (lv_at hl 1 rfl) ?_
      refine lawVi (E := (eM l G k tM aX aV)) (b := g0) (As := []) (rest := []) F hK hN hOm hTm (c_X7_tell (eM l G k tM aX aV) (xD 6600 W0) (xD 1320 V0) (xD 660 A0) m_second (xZ 2 K0) (0, 18) (((-2147483648), 2147483647)) u t X0 B1 T g0 (List.mem_singleton.mpr hg0) (by omega) (by omega) hX0 hT8) mv_X7_tell wd_15_10 ⟨Nat.le_of_ble_eq_true rfl, Nat.le_of_ble_eq_true rfl⟩ ⟨Nat.le_of_ble_eq_true rfl, Nat.le_of_ble_eq_true rfl⟩ hM hS (tRecv hK hM (by rw [show eT (eM l G k tM aX aV) g0 = 24 from hg0]; rfl) clX7) rfl hl.1 (Nat.le_of_ble_eq_true rfl) dL_law_312 (fun v1 H1 locs hq hk_ hS => ?_)
      obtain ⟨u2_1, hu2_1, B2_1, hB2_1, X2_1, hX2_1, f1_0, f1_1, hN_⟩ := hq
      have hC := keptC hdis hC hk_
      have hM : TH (eM l G k tM aX aV) (tbM (mD (.inl (0, 0)) (.inl (-2147483648, 2147483647)) (.inl (-2147483648, 2147483647)) (.inl (u2_1, u2_1)) (.inl (0, 18)) (.inl (-2147483648, 2147483647)) (.inl (0, 4000)) (.inl (-2147483648, 2147483647)) (.inl (0, 1))) (xD 660 X2_1) (xD 6600 W0) (xD 1320 V0) (xD 660 A0) (xD 660 B2_1) m_second (xB 400 T) (xZ 2 K0)) H1 := hN_
      obtain ⟨R0_, S0_, h1_, hc_⟩ := f0_2
      obtain ⟨B0_, h2_, h3_, h4_⟩ := f1_1
      have hcmp : v0.toInt = v1.toInt := by
        rw [h1_, h3_]
        exact tells_alike (by omega) h2_
      obtain ⟨-, e4_, e3_, e5_⟩ : 0 ≤ v1.toInt ∧ u2_1 = 0 ∧ gI X2_1 1 = v1.toInt ∧ sQ B2_1 X2_1 := hX2_1.2.elim (fun h_ => absurd h_.1 (by omega)) id
      have e2_ := rowT.sq (told_row (by omega) h2_ hc_ (h4_ (by omega))) e5_ (by omega)
      have hTie : ([27] = [26] → rowT x1 Da1 Sa1 Qa1 X2_1) ∧ ([27] = [27] → rowT a2_0 D2_0 Kn2_0 Q2_0 X2_1) ∧ gI K0 0 = kb % 2 ∧ gI K0 1 = kb / 2 ∧ (kb % 2 = 1 → rowT x3 Da3 Sa3 Qa3 Y0) ∧ (kb / 2 = 1 → rowT x4 Da4 Sa4 Qa4 Y1) := ⟨fun h_ => absurd h_ (by decide), fun _ => e2_, hTie.2.2⟩
      refine lv_pop hx hb dL_law_315 rfl ?_
      refine lv_goto (tgt := 1529) hx hb dL_law_316 (by decide) ?_
      have hG_ : (([27] = [26] ∧ [26] = [27]) ∨ ([27] = [27] ∧ [26] = [26])) ∧ (0 ≤ kb ∧ kb ≤ 3) ∧ (0 ≤ x1 ∧ x1 ≤ 12) ∧ (0 ≤ y1 ∧ y1 ≤ 14) ∧ (0 ≤ a2_0 ∧ a2_0 ≤ 12) ∧ (0 ≤ b2_0 ∧ b2_0 ≤ 14) ∧ (0 ≤ x3 ∧ x3 ≤ 12) ∧ (0 ≤ y3 ∧ y3 ≤ 14) ∧ (0 ≤ x4 ∧ x4 ≤ 12) ∧ (0 ≤ y4 ∧ y4 ≤ 14) ∧ ivP 12 (-2) 11 Da1 ∧ ivP 12 (-2147483648) 2147483647 Sa1 ∧ ivP 48 (-2147483648) 2147483647 Qa1 ∧ ivP 12 (-2) 11 D2_0 ∧ ivP 12 (-2147483648) 2147483647 Kn2_0 ∧ ivP 48 (-2147483648) 2147483647 Q2_0 ∧ ivP 12 (-2) 11 Da3 ∧ ivP 12 (-2147483648) 2147483647 Sa3 ∧ ivP 48 (-2147483648) 2147483647 Qa3 ∧ ivP 12 (-2) 11 Da4 ∧ ivP 12 (-2147483648) 2147483647 Sa4 ∧ ivP 48 (-2147483648) 2147483647 Qa4 := ⟨(by decide), (by omega), (by omega), (by omega), (by omega), (by omega), (by omega), (by omega), (by omega), (by omega), hDa1, hSa1, hQa1, hD2_0, hKn2_0, hQ2_0, hDa3, hSa3, hQa3, hDa4, hSa4, hQa4⟩
      exact hend 0 T ([27], [26], kb, x1, y1, a2_0, b2_0, x3, y3, x4, y4, Da1, Sa1, Qa1, D2_0, Kn2_0, Q2_0, Da3, Sa3, Qa3, Da4, Sa4, Qa4) _ _ ⟨(by omega), hT8⟩ hG_ hC ⟨X2_1, W0, V0, A0, B2_1, K0, X2_1, Y0, Y1, u2_1, (by omega), hX2_1.1, hW0, hV0, hA0, hK0, (fun _ _ => rfl), (fun r_ h_ => absurd h_ (by omega)), hy0, hy1, hTie, hM⟩ hS
  · skip
    refine lawVi (E := (eC l G k tC aX aV)) (b := h0) (As := []) (rest := []) F hK hN hOc hTc (c_X6_tell_1 (eC l G k tC aX aV) (kb, kb) (x1, x1) (y1, y1) (x2, x2) (y2, y2) (x3, x3) (y3, y3) (x4, x4) (y4, y4) (fun f_ => f_ = Da2) (fun f_ => f_ = Da3) (fun f_ => f_ = Da4) (fun f_ => f_ = Sa2) (fun f_ => f_ = Sa3) (fun f_ => f_ = Sa4) (fun f_ => f_ = Qa2) (fun f_ => f_ = Qa3) (fun f_ => f_ = Qa4) t T Da1 Sa1 Qa1 h0 (List.mem_singleton.mpr hh0) (by omega) hT8 hDa1 hSa1 hQa1 (by show 0 ≤ x1 ∧ x1 ≤ 12; omega) (by show 0 ≤ y1 ∧ y1 ≤ 14; omega) (by show 0 ≤ x2 ∧ x2 ≤ 12; omega) (by show 0 ≤ y2 ∧ y2 ≤ 14; omega) (by show 0 ≤ x3 ∧ x3 ≤ 12; omega) (by show 0 ≤ y3 ∧ y3 ≤ 14; omega) (by show 0 ≤ x4 ∧ x4 ≤ 12; omega) (by show 0 ≤ y4 ∧ y4 ≤ 14; omega) (fun f_ h_ => ivX hDa2 h_) (fun f_ h_ => ivX hDa3 h_) (fun f_ h_ => ivX hDa4 h_) (fun f_ h_ => ivX hSa2 h_) (fun f_ h_ => ivX hSa3 h_) (fun f_ h_ => ivX hSa4 h_) (fun f_ h_ => ivX hQa2 h_) (fun f_ h_ => ivX hQa3 h_) (fun f_ h_ => ivX hQa4 h_)) mv_X6_tell wd_8_13 ⟨Nat.le_of_ble_eq_true rfl, Nat.le_of_ble_eq_true rfl⟩ ⟨Nat.le_of_ble_eq_true rfl, Nat.le_of_ble_eq_true rfl⟩ hC hS (tRecv hK hC (by rw [show eT (eC l G k tC aX aV) h0 = 28 from hh0]; rfl) clX6) rfl hl.1 (Nat.le_of_ble_eq_true rfl) dL_law_307 (fun v0 H1 locs hq hk_ hS => ?_)
    obtain ⟨a2_0, ha2_0, b2_0, hb2_0, D2_0, hD2_0, Kn2_0, hKn2_0, Q2_0, hQ2_0, f0_0, f0_1, f0_2, hN_⟩ := hq
    have hM := keptM hdis hM hk_
    rcases (by omega : v0.toInt < 0 ∨ 0 ≤ v0.toInt) with hneg | hneg
    · skip
      rw [tlr_n (x := v0.toInt) (a := 27) (b := 26) hneg, tlr_n (x := v0.toInt) (a := 26) (b := 27) hneg] at hN_
      have hC : TH (eC l G k tC aX aV) (tbC (dayD (.inl (0, 18))) (dayD (.inl (0, 18))) (riverD (.inl (a2_0, a2_0)) (.inl (b2_0, b2_0)) (.inl (0, 4)) 31 33 35 39 43 47) (riverD (.inl (x2, x2)) (.inl (y2, y2)) (.inl (0, 4)) 32 34 36 40 44 48) (rcD (.inl (0, 0)) (.inr [27]) (.inr [26]) (.inl (kb, kb))) (rdD (.inl (0, 400)) (.inl (0, 400)) (.inl (0, 4000)) (.inl (0, 1)) (.inr [26, 27])) (xB 400 T) A14F A14F A4F A4F A14F A14F (riverD (.inl (x3, x3)) (.inl (y3, y3)) (.inl (0, 4)) 3 8 3 41 45 49) (riverD (.inl (x4, x4)) (.inl (y4, y4)) (.inl (0, 4)) 3 8 3 42 46 50) (xD 12 D2_0) (xD 12 Da2) (xD 12 Da3) (xD 12 Da4) (xD 12 Kn2_0) (xD 12 Sa2) (xD 12 Sa3) (xD 12 Sa4) (xD 48 Q2_0) (xD 48 Qa2) (xD 48 Qa3) (xD 48 Qa4)) H1 := hN_
      refine lv_pop hx hb dL_law_310 rfl ?_
      refine lv_aload_n hx hb dL_law_311 rfl (lv_at hl 1 rfl) ?_
      refine lawVi (E := (eM l G k tM aX aV)) (b := g0) (As := []) (rest := []) F hK hN hOm hTm (c_X7_tell (eM l G k tM aX aV) (xD 6600 W0) (xD 1320 V0) (xD 660 A0) m_second (xZ 2 K0) (0, 18) (((-2147483648), 2147483647)) u t X0 B1 T g0 (List.mem_singleton.mpr hg0) (by omega) (by omega) hX0 hT8) mv_X7_tell wd_15_10 ⟨Nat.le_of_ble_eq_true rfl, Nat.le_of_ble_eq_true rfl⟩ ⟨Nat.le_of_ble_eq_true rfl, Nat.le_of_ble_eq_true rfl⟩ hM hS (tRecv hK hM (by rw [show eT (eM l G k tM aX aV) g0 = 24 from hg0]; rfl) clX7) rfl hl.1 (Nat.le_of_ble_eq_true rfl) dL_law_312 (fun v1 H1 locs hq hk_ hS => ?_)
      obtain ⟨u2_1, hu2_1, B2_1, hB2_1, X2_1, hX2_1, f1_0, f1_1, hN_⟩ := hq
      have hC := keptC hdis hC hk_
      have hM : TH (eM l G k tM aX aV) (tbM (mD (.inl (0, 0)) (.inl (-2147483648, 2147483647)) (.inl (-2147483648, 2147483647)) (.inl (u2_1, u2_1)) (.inl (0, 18)) (.inl (-2147483648, 2147483647)) (.inl (0, 4000)) (.inl (-2147483648, 2147483647)) (.inl (0, 1))) (xD 660 X2_1) (xD 6600 W0) (xD 1320 V0) (xD 660 A0) (xD 660 B2_1) m_second (xB 400 T) (xZ 2 K0)) H1 := hN_
      obtain ⟨R0_, S0_, h1_, hc_⟩ := f0_2
      obtain ⟨B0_, h2_, h3_, h4_⟩ := f1_1
      have hcmp : v0.toInt = v1.toInt := by
        rw [h1_, h3_]
        exact tells_alike (by omega) h2_
      obtain ⟨-, e3_, e4_⟩ : v1.toInt < 0 ∧ X2_1 = X0 ∧ u2_1 = u := hX2_1.2.elim id (fun h_ => absurd h_.1 (by omega))
      have hm_ : okM Z u2_1 W0 := by rw [e4_]; exact hmW0
      have hq_ : sQ Z X2_1 := by rw [e3_]; exact hqX0
      have hTie : ([27] = [26] → rowT a2_0 D2_0 Kn2_0 Q2_0 Z) ∧ ([27] = [27] → rowT x2 Da2 Sa2 Qa2 Z) ∧ gI K0 0 = kb % 2 ∧ gI K0 1 = kb / 2 ∧ (kb % 2 = 1 → rowT x3 Da3 Sa3 Qa3 Y0) ∧ (kb / 2 = 1 → rowT x4 Da4 Sa4 Qa4 Y1) := ⟨fun h_ => absurd h_ (by decide), fun _ => (hTie.2.1 rfl), hTie.2.2⟩
      refine lv_pop hx hb dL_law_315 rfl ?_
      refine lv_goto (tgt := 1529) hx hb dL_law_316 (by decide) ?_
      have hG_ : (([27] = [26] ∧ [26] = [27]) ∨ ([27] = [27] ∧ [26] = [26])) ∧ (0 ≤ kb ∧ kb ≤ 3) ∧ (0 ≤ a2_0 ∧ a2_0 ≤ 12) ∧ (0 ≤ b2_0 ∧ b2_0 ≤ 14) ∧ (0 ≤ x2 ∧ x2 ≤ 12) ∧ (0 ≤ y2 ∧ y2 ≤ 14) ∧ (0 ≤ x3 ∧ x3 ≤ 12) ∧ (0 ≤ y3 ∧ y3 ≤ 14) ∧ (0 ≤ x4 ∧ x4 ≤ 12) ∧ (0 ≤ y4 ∧ y4 ≤ 14) ∧ ivP 12 (-2) 11 D2_0 ∧ ivP 12 (-2147483648) 2147483647 Kn2_0 ∧ ivP 48 (-2147483648) 2147483647 Q2_0 ∧ ivP 12 (-2) 11 Da2 ∧ ivP 12 (-2147483648) 2147483647 Sa2 ∧ ivP 48 (-2147483648) 2147483647 Qa2 ∧ ivP 12 (-2) 11 Da3 ∧ ivP 12 (-2147483648) 2147483647 Sa3 ∧ ivP 48 (-2147483648) 2147483647 Qa3 ∧ ivP 12 (-2) 11 Da4 ∧ ivP 12 (-2147483648) 2147483647 Sa4 ∧ ivP 48 (-2147483648) 2147483647 Qa4 := ⟨(by decide), (by omega), (by omega), (by omega), (by omega), (by omega), (by omega), (by omega), (by omega), (by omega), hD2_0, hKn2_0, hQ2_0, hDa2, hSa2, hQa2, hDa3, hSa3, hQa3, hDa4, hSa4, hQa4⟩
      exact hend 0 T ([27], [26], kb, a2_0, b2_0, x2, y2, x3, y3, x4, y4, D2_0, Kn2_0, Q2_0, Da2, Sa2, Qa2, Da3, Sa3, Qa3, Da4, Sa4, Qa4) _ _ ⟨(by omega), hT8⟩ hG_ hC ⟨X2_1, W0, V0, A0, B2_1, K0, Z, Y0, Y1, u2_1, (by omega), hX2_1.1, hW0, hV0, hA0, hK0, hq_, hm_, hy0, hy1, hTie, hM⟩ hS
    · skip
      rw [tlr_p (x := v0.toInt) (a := 27) (b := 26) hneg, tlr_p (x := v0.toInt) (a := 26) (b := 27) hneg] at hN_
      have hC : TH (eC l G k tC aX aV) (tbC (dayD (.inl (0, 18))) (dayD (.inl (0, 18))) (riverD (.inl (a2_0, a2_0)) (.inl (b2_0, b2_0)) (.inl (0, 4)) 31 33 35 39 43 47) (riverD (.inl (x2, x2)) (.inl (y2, y2)) (.inl (0, 4)) 32 34 36 40 44 48) (rcD (.inl (0, 0)) (.inr [26]) (.inr [27]) (.inl (kb, kb))) (rdD (.inl (0, 400)) (.inl (0, 400)) (.inl (0, 4000)) (.inl (0, 1)) (.inr [26, 27])) (xB 400 T) A14F A14F A4F A4F A14F A14F (riverD (.inl (x3, x3)) (.inl (y3, y3)) (.inl (0, 4)) 3 8 3 41 45 49) (riverD (.inl (x4, x4)) (.inl (y4, y4)) (.inl (0, 4)) 3 8 3 42 46 50) (xD 12 D2_0) (xD 12 Da2) (xD 12 Da3) (xD 12 Da4) (xD 12 Kn2_0) (xD 12 Sa2) (xD 12 Sa3) (xD 12 Sa4) (xD 48 Q2_0) (xD 48 Qa2) (xD 48 Qa3) (xD 48 Qa4)) H1 := hN_
      refine lv_pop hx hb dL_law_310 rfl ?_
      refine lv_aload_n hx hb dL_law_311 rfl (lv_at hl 1 rfl) ?_
      refine lawVi (E := (eM l G k tM aX aV)) (b := g0) (As := []) (rest := []) F hK hN hOm hTm (c_X7_tell (eM l G k tM aX aV) (xD 6600 W0) (xD 1320 V0) (xD 660 A0) m_second (xZ 2 K0) (0, 18) (((-2147483648), 2147483647)) u t X0 B1 T g0 (List.mem_singleton.mpr hg0) (by omega) (by omega) hX0 hT8) mv_X7_tell wd_15_10 ⟨Nat.le_of_ble_eq_true rfl, Nat.le_of_ble_eq_true rfl⟩ ⟨Nat.le_of_ble_eq_true rfl, Nat.le_of_ble_eq_true rfl⟩ hM hS (tRecv hK hM (by rw [show eT (eM l G k tM aX aV) g0 = 24 from hg0]; rfl) clX7) rfl hl.1 (Nat.le_of_ble_eq_true rfl) dL_law_312 (fun v1 H1 locs hq hk_ hS => ?_)
      obtain ⟨u2_1, hu2_1, B2_1, hB2_1, X2_1, hX2_1, f1_0, f1_1, hN_⟩ := hq
      have hC := keptC hdis hC hk_
      have hM : TH (eM l G k tM aX aV) (tbM (mD (.inl (0, 0)) (.inl (-2147483648, 2147483647)) (.inl (-2147483648, 2147483647)) (.inl (u2_1, u2_1)) (.inl (0, 18)) (.inl (-2147483648, 2147483647)) (.inl (0, 4000)) (.inl (-2147483648, 2147483647)) (.inl (0, 1))) (xD 660 X2_1) (xD 6600 W0) (xD 1320 V0) (xD 660 A0) (xD 660 B2_1) m_second (xB 400 T) (xZ 2 K0)) H1 := hN_
      obtain ⟨R0_, S0_, h1_, hc_⟩ := f0_2
      obtain ⟨B0_, h2_, h3_, h4_⟩ := f1_1
      have hcmp : v0.toInt = v1.toInt := by
        rw [h1_, h3_]
        exact tells_alike (by omega) h2_
      obtain ⟨-, e4_, e3_, e5_⟩ : 0 ≤ v1.toInt ∧ u2_1 = 0 ∧ gI X2_1 1 = v1.toInt ∧ sQ B2_1 X2_1 := hX2_1.2.elim (fun h_ => absurd h_.1 (by omega)) id
      have e2_ := rowT.sq (told_row (by omega) h2_ hc_ (h4_ (by omega))) e5_ (by omega)
      have hTie : ([26] = [26] → rowT a2_0 D2_0 Kn2_0 Q2_0 X2_1) ∧ ([26] = [27] → rowT x2 Da2 Sa2 Qa2 X2_1) ∧ gI K0 0 = kb % 2 ∧ gI K0 1 = kb / 2 ∧ (kb % 2 = 1 → rowT x3 Da3 Sa3 Qa3 Y0) ∧ (kb / 2 = 1 → rowT x4 Da4 Sa4 Qa4 Y1) := ⟨fun _ => e2_, fun h_ => absurd h_ (by decide), hTie.2.2⟩
      refine lv_pop hx hb dL_law_315 rfl ?_
      refine lv_goto (tgt := 1529) hx hb dL_law_316 (by decide) ?_
      have hG_ : (([26] = [26] ∧ [27] = [27]) ∨ ([26] = [27] ∧ [27] = [26])) ∧ (0 ≤ kb ∧ kb ≤ 3) ∧ (0 ≤ a2_0 ∧ a2_0 ≤ 12) ∧ (0 ≤ b2_0 ∧ b2_0 ≤ 14) ∧ (0 ≤ x2 ∧ x2 ≤ 12) ∧ (0 ≤ y2 ∧ y2 ≤ 14) ∧ (0 ≤ x3 ∧ x3 ≤ 12) ∧ (0 ≤ y3 ∧ y3 ≤ 14) ∧ (0 ≤ x4 ∧ x4 ≤ 12) ∧ (0 ≤ y4 ∧ y4 ≤ 14) ∧ ivP 12 (-2) 11 D2_0 ∧ ivP 12 (-2147483648) 2147483647 Kn2_0 ∧ ivP 48 (-2147483648) 2147483647 Q2_0 ∧ ivP 12 (-2) 11 Da2 ∧ ivP 12 (-2147483648) 2147483647 Sa2 ∧ ivP 48 (-2147483648) 2147483647 Qa2 ∧ ivP 12 (-2) 11 Da3 ∧ ivP 12 (-2147483648) 2147483647 Sa3 ∧ ivP 48 (-2147483648) 2147483647 Qa3 ∧ ivP 12 (-2) 11 Da4 ∧ ivP 12 (-2147483648) 2147483647 Sa4 ∧ ivP 48 (-2147483648) 2147483647 Qa4 := ⟨(by decide), (by omega), (by omega), (by omega), (by omega), (by omega), (by omega), (by omega), (by omega), (by omega), hD2_0, hKn2_0, hQ2_0, hDa2, hSa2, hQa2, hDa3, hSa3, hQa3, hDa4, hSa4, hQa4⟩
      exact hend 0 T ([26], [27], kb, a2_0, b2_0, x2, y2, x3, y3, x4, y4, D2_0, Kn2_0, Q2_0, Da2, Sa2, Qa2, Da3, Sa3, Qa3, Da4, Sa4, Qa4) _ _ ⟨(by omega), hT8⟩ hG_ hC ⟨X2_1, W0, V0, A0, B2_1, K0, X2_1, Y0, Y1, u2_1, (by omega), hX2_1.1, hW0, hV0, hA0, hK0, (fun _ _ => rfl), (fun r_ h_ => absurd h_ (by omega)), hy0, hy1, hTie, hM⟩ hS
set_option maxHeartbeats 4000000 in
set_option maxRecDepth 100000 in
theorem law_c3 {pg_ : Program} {l : Launch} {ev_ : Env} {s : State} {mi_ : MethodId} {below_ : List Frame} {meth : Method} {cd_ : Code} {H : Heap} {locs : List Loc} {ls : Array Slot} {b L : Nat} {xs : Nat → Int32} {G : va_G} {k : Nat → ClassId} {tC tM aX aV : Nat → Nat} {h0 g0 : Nat} {i : Int32} {t : Int} {T : RwF} {g : Gs} (B0 : LB pg_ s mi_ meth cd_ b L xs l G k tC tM aX aV h0 g0) (hi : 0 ≤ i.toInt ∧ i.toInt + 6 ≤ L) (ht : (0 ≤ t ∧ t ≤ 400) ∧ ivP 400 (-128) 127 T) (hg : Gok g) (hC : Cs (eC l G k tC aX aV) t T g H) (hMs : Ms (eM l G k tM aX aV) t T g H) (hS : va_S (lawA s) s.heap H locs) (hl : lv_has ls 4 [(3, .int i), (2, .ref g0), (1, .ref h0), (0, .ref b)]) (hend : ∀ (t : Int) (T : RwF) (g : Gs) (H : Heap) (locs : List Loc), ((0 ≤ t ∧ t ≤ 400) ∧ ivP 400 (-128) 127 T) → Gok g → Cs (eC l G k tC aX aV) t T g H → Ms (eM l G k tM aX aV) t T g H → va_S (lawA s) s.heap H locs → W pg_ l ev_ room_1 s mi_ #[Value.ref b] below_ meth cd_ H locs 294 18964 (lw_Z below_ #[Value.ref b] s) (F0 mi_ 1529 ls [])) : W pg_ l ev_ room_1 s mi_ #[Value.ref b] below_ meth cd_ H locs 294 18964 (lw_Z below_ #[Value.ref b] s) (F0 mi_ 319 ls []) := by
  obtain ⟨F, hK, hN, hOc, hOm, hX, hbl, hL, hTc, hTm, hdis, hh0, hg0⟩ := id B0
  obtain ⟨hx, hb, hr, hml, hown, hlk, hw, -⟩ := id F
  have hbA : ¬ lawA s b := fun q => absurd q (by unfold lawA; omega)
  obtain ⟨kr, ks, kb, x1, y1, x2, y2, x3, y3, x4, y4, Da1, Sa1, Qa1, Da2, Sa2, Qa2, Da3, Sa3, Qa3, Da4, Sa4, Qa4⟩ := g
  obtain ⟨X0, W0, V0, A0, B1, K0, Z, Y0, Y1, u, hu, hX0, hW0, hV0, hA0, hK0, hqX0, hmW0, hy0, hy1, hTie0, hM⟩ := hMs
  obtain ⟨ht, hT8⟩ := ht
  have hg : ((kr = [26] ∧ ks = [27]) ∨ (kr = [27] ∧ ks = [26])) ∧ (0 ≤ kb ∧ kb ≤ 3) ∧ (0 ≤ x1 ∧ x1 ≤ 12) ∧ (0 ≤ y1 ∧ y1 ≤ 14) ∧ (0 ≤ x2 ∧ x2 ≤ 12) ∧ (0 ≤ y2 ∧ y2 ≤ 14) ∧ (0 ≤ x3 ∧ x3 ≤ 12) ∧ (0 ≤ y3 ∧ y3 ≤ 14) ∧ (0 ≤ x4 ∧ x4 ≤ 12) ∧ (0 ≤ y4 ∧ y4 ≤ 14) ∧ ivP 12 (-2) 11 Da1 ∧ ivP 12 (-2147483648) 2147483647 Sa1 ∧ ivP 48 (-2147483648) 2147483647 Qa1 ∧ ivP 12 (-2) 11 Da2 ∧ ivP 12 (-2147483648) 2147483647 Sa2 ∧ ivP 48 (-2147483648) 2147483647 Qa2 ∧ ivP 12 (-2) 11 Da3 ∧ ivP 12 (-2147483648) 2147483647 Sa3 ∧ ivP 48 (-2147483648) 2147483647 Qa3 ∧ ivP 12 (-2) 11 Da4 ∧ ivP 12 (-2147483648) 2147483647 Sa4 ∧ ivP 48 (-2147483648) 2147483647 Qa4 := hg
  obtain ⟨hkk, hkb, hx1, hy1_, hx2, hy2_, hx3, hy3_, hx4, hy4_, hDa1, hSa1, hQa1, hDa2, hSa2, hQa2, hDa3, hSa3, hQa3, hDa4, hSa4, hQa4⟩ := hg
  have hC : TH (eC l G k tC aX aV) (tbC (dayD (.inl (0, 18))) (dayD (.inl (0, 18))) (riverD (.inl (x1, x1)) (.inl (y1, y1)) (.inl (0, 4)) 31 33 35 39 43 47) (riverD (.inl (x2, x2)) (.inl (y2, y2)) (.inl (0, 4)) 32 34 36 40 44 48) (rcD (.inl (t, t)) (.inr kr) (.inr ks) (.inl (kb, kb))) (rdD (.inl (0, 400)) (.inl (0, 400)) (.inl (0, 4000)) (.inl (0, 1)) (.inr [26, 27])) (xB 400 T) A14F A14F A4F A4F A14F A14F (riverD (.inl (x3, x3)) (.inl (y3, y3)) (.inl (0, 4)) 3 8 3 41 45 49) (riverD (.inl (x4, x4)) (.inl (y4, y4)) (.inl (0, 4)) 3 8 3 42 46 50) (xD 12 Da1) (xD 12 Da2) (xD 12 Da3) (xD 12 Da4) (xD 12 Sa1) (xD 12 Sa2) (xD 12 Sa3) (xD 12 Sa4) (xD 48 Qa1) (xD 48 Qa2) (xD 48 Qa3) (xD 48 Qa4)) H := hC
  have hTie : (kr = [26] → rowT x1 Da1 Sa1 Qa1 Z) ∧ (kr = [27] → rowT x2 Da2 Sa2 Qa2 Z) ∧ gI K0 0 = kb % 2 ∧ gI K0 1 = kb / 2 ∧ (kb % 2 = 1 → rowT x3 Da3 Sa3 Qa3 Y0) ∧ (kb / 2 = 1 → rowT x4 Da4 Sa4 Qa4 Y1) := hTie0
  clear hTie0
  have hk1 : (i + 1).toInt = i.toInt + 1 := by
    have h1 := i_add (x := i) (y := 1) (by rw [show (1 : Int32).toInt = 1 by decide]; omega) (by rw [show (1 : Int32).toInt = 1 by decide]; omega)
    rw [show (1 : Int32).toInt = 1 by decide] at h1
    exact h1
  refine lv_aload_n hx hb dL_law_319 rfl (lv_at hl 2 rfl) ?_
  refine lv_aload_n hx hb dL_law_320 rfl (lv_at hl 3 rfl) ?_
  refine lv_iload_n hx hb dL_law_321 rfl (lv_at hl 0 rfl) ?_
  refine lv_iconst (v := 1) hx hb dL_law_322 (by decide) ?_
  refine lv_iadd hx hb dL_law_323 ?_
  refine va_sld hx hb hX hbl hbA hS (vinT (by rw [hk1]; omega)) dL_law_324 ?_
  refine lv_topi (fun a1_0 ea1_0 => ?_)
  have hkr : ∀ t ∈ kr, t ∈ [26, 27] := by rcases hkk with ⟨h9_, -⟩ | ⟨h9_, -⟩ <;> rw [h9_] <;> decide
  have hks : ∀ t ∈ ks, t ∈ [26, 27] := by rcases hkk with ⟨-, h9_⟩ | ⟨-, h9_⟩ <;> rw [h9_] <;> decide
  refine lawVi (E := (eC l G k tC aX aV)) (b := h0) (As := [.int a1_0]) (rest := []) F hK hN hOc hTc (c_X6_days (eC l G k tC aX aV) (rdD (.inl (0, 400)) (.inl (0, 400)) (.inl (0, 4000)) (.inl (0, 1)) (.inr [26, 27])) (xB 400 T) (kb, kb) (x1, x1) (y1, y1) (x2, x2) (y2, y2) (x3, x3) (y3, y3) (x4, x4) (y4, y4) kr ks (fun f_ => f_ = Da1) (fun f_ => f_ = Da2) (fun f_ => f_ = Da3) (fun f_ => f_ = Da4) (fun f_ => f_ = Sa1) (fun f_ => f_ = Sa2) (fun f_ => f_ = Sa3) (fun f_ => f_ = Sa4) (fun f_ => f_ = Qa1) (fun f_ => f_ = Qa2) (fun f_ => f_ = Qa3) (fun f_ => f_ = Qa4) t h0 a1_0 (List.mem_singleton.mpr hh0) (by omega) (by show 0 ≤ x1 ∧ x1 ≤ 12; omega) (by show 0 ≤ y1 ∧ y1 ≤ 14; omega) (by show 0 ≤ x2 ∧ x2 ≤ 12; omega) (by show 0 ≤ y2 ∧ y2 ≤ 14; omega) (by show 0 ≤ x3 ∧ x3 ≤ 12; omega) (by show 0 ≤ y3 ∧ y3 ≤ 14; omega) (by show 0 ≤ x4 ∧ x4 ≤ 12; omega) (by show 0 ≤ y4 ∧ y4 ≤ 14; omega) hkr hks (fun f_ h_ => ivX hDa1 h_) (fun f_ h_ => ivX hDa2 h_) (fun f_ h_ => ivX hDa3 h_) (fun f_ h_ => ivX hDa4 h_) (fun f_ h_ => ivX hSa1 h_) (fun f_ h_ => ivX hSa2 h_) (fun f_ h_ => ivX hSa3 h_) (fun f_ h_ => ivX hSa4 h_) (fun f_ h_ => ivX hQa1 h_) (fun f_ h_ => ivX hQa2 h_) (fun f_ h_ => ivX hQa3 h_) (fun f_ h_ => ivX hQa4 h_)) mv_X6_days wd_19_8 ⟨Nat.le_of_ble_eq_true rfl, Nat.le_of_ble_eq_true rfl⟩ ⟨Nat.le_of_ble_eq_true rfl, Nat.le_of_ble_eq_true rfl⟩ hC hS (tRecv hK hC (by rw [show eT (eC l G k tC aX aV) h0 = 28 from hh0]; rfl) clX6) rfl hl.1 (Nat.le_of_ble_eq_true rfl) dL_law_325 (fun v0 H1 locs hq hk_ hS => ?_)
  obtain ⟨f0_0, hN_⟩ := hq
  have hM := keptM hdis hM hk_
  have hC : TH (eC l G k tC aX aV) (tbC (dayD (.inl (0, 18))) (dayD (.inl (0, 18))) (riverD (.inl (x1, x1)) (.inl (y1, y1)) (.inl (0, 4)) 31 33 35 39 43 47) (riverD (.inl (x2, x2)) (.inl (y2, y2)) (.inl (0, 4)) 32 34 36 40 44 48) (rcD (.inl (t, t)) (.inr kr) (.inr ks) (.inl (kb, kb))) (rdD (.inl (0, 400)) (.inl (0, 400)) (.inl (0, 4000)) (.inl (0, 1)) (.inr [26, 27])) (xB 400 T) A14F A14F A4F A4F A14F A14F (riverD (.inl (x3, x3)) (.inl (y3, y3)) (.inl (0, 4)) 3 8 3 41 45 49) (riverD (.inl (x4, x4)) (.inl (y4, y4)) (.inl (0, 4)) 3 8 3 42 46 50) (xD 12 Da1) (xD 12 Da2) (xD 12 Da3) (xD 12 Da4) (xD 12 Sa1) (xD 12 Sa2) (xD 12 Sa3) (xD 12 Sa4) (xD 48 Qa1) (xD 48 Qa2) (xD 48 Qa3) (xD 48 Qa4)) H1 := hN_
  refine lv_pop hx hb dL_law_328 rfl ?_
  refine lv_aload_n hx hb dL_law_329 rfl (lv_at hl 1 rfl) ?_
  refine lv_aload_n hx hb dL_law_330 rfl (lv_at hl 3 rfl) ?_
  refine lv_iload_n hx hb dL_law_331 rfl (lv_at hl 0 rfl) ?_
  refine lv_iconst (v := 1) hx hb dL_law_332 (by decide) ?_
  refine lv_iadd hx hb dL_law_333 ?_
  refine va_sld hx hb hX hbl hbA hS (vinT (by rw [hk1]; omega)) dL_law_334 ?_
  refine lv_topi (fun a1_1 ea1_1 => ?_)
  obtain rfl : a1_0 = a1_1 := ea1_0.trans ea1_1.symm
  refine lawVi (E := (eM l G k tM aX aV)) (b := g0) (As := [.int a1_0]) (rest := []) F hK hN hOm hTm (c_X7_days (eM l G k tM aX aV) (xD 1320 V0) (xD 660 A0) (xD 660 B1) (xB 400 T) (xZ 2 K0) (((-2147483648), 2147483647)) (t, t) (((-2147483648), 2147483647)) (0, 4000) (((-2147483648), 2147483647)) (((-2147483648), 2147483647)) (0, 1) u X0 W0 Z g0 a1_0 (List.mem_singleton.mpr hg0) (by omega) hX0 hW0 hmW0 hqX0) mv_X7_days wd_25_2 ⟨Nat.le_of_ble_eq_true rfl, Nat.le_of_ble_eq_true rfl⟩ ⟨Nat.le_of_ble_eq_true rfl, Nat.le_of_ble_eq_true rfl⟩ hM hS (tRecv hK hM (by rw [show eT (eM l G k tM aX aV) g0 = 24 from hg0]; rfl) clX7) rfl hl.1 (Nat.le_of_ble_eq_true rfl) dL_law_335 (fun v1 H1 locs hq hk_ hS => ?_)
  obtain ⟨u2_1, hu2_1, Wb_1, hWb_1, X2_1, hX2_1, f1_0, hN_⟩ := hq
  have hC := keptC hdis hC hk_
  have hM : TH (eM l G k tM aX aV) (tbM (mD (.inl (t, t)) (.inl (-2147483648, 2147483647)) (.inl (-2147483648, 2147483647)) (.inl (u2_1, u2_1)) (.inl (0, 18)) (.inl (-2147483648, 2147483647)) (.inl (0, 4000)) (.inl (-2147483648, 2147483647)) (.inl (0, 1))) (xD 660 X2_1) (xD 6600 Wb_1) (xD 1320 V0) (xD 660 A0) (xD 660 B1) m_second (xB 400 T) (xZ 2 K0)) H1 := hN_
  refine lv_pop hx hb dL_law_338 rfl ?_
  refine lv_goto (tgt := 1529) hx hb dL_law_339 (by decide) ?_
  have hG_ : ((kr = [26] ∧ ks = [27]) ∨ (kr = [27] ∧ ks = [26])) ∧ (0 ≤ kb ∧ kb ≤ 3) ∧ (0 ≤ x1 ∧ x1 ≤ 12) ∧ (0 ≤ y1 ∧ y1 ≤ 14) ∧ (0 ≤ x2 ∧ x2 ≤ 12) ∧ (0 ≤ y2 ∧ y2 ≤ 14) ∧ (0 ≤ x3 ∧ x3 ≤ 12) ∧ (0 ≤ y3 ∧ y3 ≤ 14) ∧ (0 ≤ x4 ∧ x4 ≤ 12) ∧ (0 ≤ y4 ∧ y4 ≤ 14) ∧ ivP 12 (-2) 11 Da1 ∧ ivP 12 (-2147483648) 2147483647 Sa1 ∧ ivP 48 (-2147483648) 2147483647 Qa1 ∧ ivP 12 (-2) 11 Da2 ∧ ivP 12 (-2147483648) 2147483647 Sa2 ∧ ivP 48 (-2147483648) 2147483647 Qa2 ∧ ivP 12 (-2) 11 Da3 ∧ ivP 12 (-2147483648) 2147483647 Sa3 ∧ ivP 48 (-2147483648) 2147483647 Qa3 ∧ ivP 12 (-2) 11 Da4 ∧ ivP 12 (-2147483648) 2147483647 Sa4 ∧ ivP 48 (-2147483648) 2147483647 Qa4 := ⟨hkk, (by omega), (by omega), (by omega), (by omega), (by omega), (by omega), (by omega), (by omega), (by omega), hDa1, hSa1, hQa1, hDa2, hSa2, hQa2, hDa3, hSa3, hQa3, hDa4, hSa4, hQa4⟩
  exact hend t T (kr, ks, kb, x1, y1, x2, y2, x3, y3, x4, y4, Da1, Sa1, Qa1, Da2, Sa2, Qa2, Da3, Sa3, Qa3, Da4, Sa4, Qa4) _ _ ⟨(by omega), hT8⟩ hG_ hC ⟨X2_1, Wb_1, V0, A0, B1, K0, Z, Y0, Y1, u2_1, (by omega), hX2_1.1, hWb_1.1, hV0, hA0, hK0, hX2_1.2, hWb_1.2, hy0, hy1, hTie, hM⟩ hS
set_option maxHeartbeats 4000000 in
set_option maxRecDepth 100000 in
theorem law_c4 {pg_ : Program} {l : Launch} {ev_ : Env} {s : State} {mi_ : MethodId} {below_ : List Frame} {meth : Method} {cd_ : Code} {H : Heap} {locs : List Loc} {ls : Array Slot} {b L : Nat} {xs : Nat → Int32} {G : va_G} {k : Nat → ClassId} {tC tM aX aV : Nat → Nat} {h0 g0 : Nat} {i : Int32} {t : Int} {T : RwF} {g : Gs} (B0 : LB pg_ s mi_ meth cd_ b L xs l G k tC tM aX aV h0 g0) (hi : 0 ≤ i.toInt ∧ i.toInt + 6 ≤ L) (ht : (0 ≤ t ∧ t ≤ 400) ∧ ivP 400 (-128) 127 T) (hg : Gok g) (hC : Cs (eC l G k tC aX aV) t T g H) (hMs : Ms (eM l G k tM aX aV) t T g H) (hS : va_S (lawA s) s.heap H locs) (hl : lv_has ls 4 [(3, .int i), (2, .ref g0), (1, .ref h0), (0, .ref b)]) (hend : ∀ (t : Int) (T : RwF) (g : Gs) (H : Heap) (locs : List Loc), ((0 ≤ t ∧ t ≤ 400) ∧ ivP 400 (-128) 127 T) → Gok g → Cs (eC l G k tC aX aV) t T g H → Ms (eM l G k tM aX aV) t T g H → va_S (lawA s) s.heap H locs → W pg_ l ev_ room_1 s mi_ #[Value.ref b] below_ meth cd_ H locs 294 18964 (lw_Z below_ #[Value.ref b] s) (F0 mi_ 1529 ls [])) : W pg_ l ev_ room_1 s mi_ #[Value.ref b] below_ meth cd_ H locs 294 18964 (lw_Z below_ #[Value.ref b] s) (F0 mi_ 342 ls []) := by
  obtain ⟨F, hK, hN, hOc, hOm, hX, hbl, hL, hTc, hTm, hdis, hh0, hg0⟩ := id B0
  obtain ⟨hx, hb, hr, hml, hown, hlk, hw, -⟩ := id F
  have hbA : ¬ lawA s b := fun q => absurd q (by unfold lawA; omega)
  obtain ⟨kr, ks, kb, x1, y1, x2, y2, x3, y3, x4, y4, Da1, Sa1, Qa1, Da2, Sa2, Qa2, Da3, Sa3, Qa3, Da4, Sa4, Qa4⟩ := g
  obtain ⟨X0, W0, V0, A0, B1, K0, Z, Y0, Y1, u, hu, hX0, hW0, hV0, hA0, hK0, hqX0, hmW0, hy0, hy1, hTie0, hM⟩ := hMs
  obtain ⟨ht, hT8⟩ := ht
  have hg : ((kr = [26] ∧ ks = [27]) ∨ (kr = [27] ∧ ks = [26])) ∧ (0 ≤ kb ∧ kb ≤ 3) ∧ (0 ≤ x1 ∧ x1 ≤ 12) ∧ (0 ≤ y1 ∧ y1 ≤ 14) ∧ (0 ≤ x2 ∧ x2 ≤ 12) ∧ (0 ≤ y2 ∧ y2 ≤ 14) ∧ (0 ≤ x3 ∧ x3 ≤ 12) ∧ (0 ≤ y3 ∧ y3 ≤ 14) ∧ (0 ≤ x4 ∧ x4 ≤ 12) ∧ (0 ≤ y4 ∧ y4 ≤ 14) ∧ ivP 12 (-2) 11 Da1 ∧ ivP 12 (-2147483648) 2147483647 Sa1 ∧ ivP 48 (-2147483648) 2147483647 Qa1 ∧ ivP 12 (-2) 11 Da2 ∧ ivP 12 (-2147483648) 2147483647 Sa2 ∧ ivP 48 (-2147483648) 2147483647 Qa2 ∧ ivP 12 (-2) 11 Da3 ∧ ivP 12 (-2147483648) 2147483647 Sa3 ∧ ivP 48 (-2147483648) 2147483647 Qa3 ∧ ivP 12 (-2) 11 Da4 ∧ ivP 12 (-2147483648) 2147483647 Sa4 ∧ ivP 48 (-2147483648) 2147483647 Qa4 := hg
  obtain ⟨hkk, hkb, hx1, hy1_, hx2, hy2_, hx3, hy3_, hx4, hy4_, hDa1, hSa1, hQa1, hDa2, hSa2, hQa2, hDa3, hSa3, hQa3, hDa4, hSa4, hQa4⟩ := hg
  have hC : TH (eC l G k tC aX aV) (tbC (dayD (.inl (0, 18))) (dayD (.inl (0, 18))) (riverD (.inl (x1, x1)) (.inl (y1, y1)) (.inl (0, 4)) 31 33 35 39 43 47) (riverD (.inl (x2, x2)) (.inl (y2, y2)) (.inl (0, 4)) 32 34 36 40 44 48) (rcD (.inl (t, t)) (.inr kr) (.inr ks) (.inl (kb, kb))) (rdD (.inl (0, 400)) (.inl (0, 400)) (.inl (0, 4000)) (.inl (0, 1)) (.inr [26, 27])) (xB 400 T) A14F A14F A4F A4F A14F A14F (riverD (.inl (x3, x3)) (.inl (y3, y3)) (.inl (0, 4)) 3 8 3 41 45 49) (riverD (.inl (x4, x4)) (.inl (y4, y4)) (.inl (0, 4)) 3 8 3 42 46 50) (xD 12 Da1) (xD 12 Da2) (xD 12 Da3) (xD 12 Da4) (xD 12 Sa1) (xD 12 Sa2) (xD 12 Sa3) (xD 12 Sa4) (xD 48 Qa1) (xD 48 Qa2) (xD 48 Qa3) (xD 48 Qa4)) H := hC
  have hTie : (kr = [26] → rowT x1 Da1 Sa1 Qa1 Z) ∧ (kr = [27] → rowT x2 Da2 Sa2 Qa2 Z) ∧ gI K0 0 = kb % 2 ∧ gI K0 1 = kb / 2 ∧ (kb % 2 = 1 → rowT x3 Da3 Sa3 Qa3 Y0) ∧ (kb / 2 = 1 → rowT x4 Da4 Sa4 Qa4 Y1) := hTie0
  clear hTie0
  have hk1 : (i + 1).toInt = i.toInt + 1 := by
    have h1 := i_add (x := i) (y := 1) (by rw [show (1 : Int32).toInt = 1 by decide]; omega) (by rw [show (1 : Int32).toInt = 1 by decide]; omega)
    rw [show (1 : Int32).toInt = 1 by decide] at h1
    exact h1
  refine lv_aload_n hx hb dL_law_342 rfl (lv_at hl 2 rfl) ?_
  refine lv_aload_n hx hb dL_law_343 rfl (lv_at hl 3 rfl) ?_
  refine lv_iload_n hx hb dL_law_344 rfl (lv_at hl 0 rfl) ?_
  refine lv_iconst (v := 1) hx hb dL_law_345 (by decide) ?_
  refine lv_iadd hx hb dL_law_346 ?_
  refine va_sld hx hb hX hbl hbA hS (vinT (by rw [hk1]; omega)) dL_law_347 ?_
  refine lv_topi (fun a1_0 ea1_0 => ?_)
  have hkr : ∀ t ∈ kr, t ∈ [26, 27] := by rcases hkk with ⟨h9_, -⟩ | ⟨h9_, -⟩ <;> rw [h9_] <;> decide
  have hks : ∀ t ∈ ks, t ∈ [26, 27] := by rcases hkk with ⟨-, h9_⟩ | ⟨-, h9_⟩ <;> rw [h9_] <;> decide
  refine lawVi (E := (eC l G k tC aX aV)) (b := h0) (As := [.int a1_0]) (rest := []) F hK hN hOc hTc (c_X6_wet (eC l G k tC aX aV) (rdD (.inl (0, 400)) (.inl (0, 400)) (.inl (0, 4000)) (.inl (0, 1)) (.inr [26, 27])) (xB 400 T) (kb, kb) (x1, x1) (y1, y1) (x2, x2) (y2, y2) (x3, x3) (y3, y3) (x4, x4) (y4, y4) kr ks (fun f_ => f_ = Da1) (fun f_ => f_ = Da2) (fun f_ => f_ = Da3) (fun f_ => f_ = Da4) (fun f_ => f_ = Sa1) (fun f_ => f_ = Sa2) (fun f_ => f_ = Sa3) (fun f_ => f_ = Sa4) (fun f_ => f_ = Qa1) (fun f_ => f_ = Qa2) (fun f_ => f_ = Qa3) (fun f_ => f_ = Qa4) t h0 a1_0 (List.mem_singleton.mpr hh0) (by omega) (by show 0 ≤ x1 ∧ x1 ≤ 12; omega) (by show 0 ≤ y1 ∧ y1 ≤ 14; omega) (by show 0 ≤ x2 ∧ x2 ≤ 12; omega) (by show 0 ≤ y2 ∧ y2 ≤ 14; omega) (by show 0 ≤ x3 ∧ x3 ≤ 12; omega) (by show 0 ≤ y3 ∧ y3 ≤ 14; omega) (by show 0 ≤ x4 ∧ x4 ≤ 12; omega) (by show 0 ≤ y4 ∧ y4 ≤ 14; omega) hkr hks (fun f_ h_ => ivX hDa1 h_) (fun f_ h_ => ivX hDa2 h_) (fun f_ h_ => ivX hDa3 h_) (fun f_ h_ => ivX hDa4 h_) (fun f_ h_ => ivX hSa1 h_) (fun f_ h_ => ivX hSa2 h_) (fun f_ h_ => ivX hSa3 h_) (fun f_ h_ => ivX hSa4 h_) (fun f_ h_ => ivX hQa1 h_) (fun f_ h_ => ivX hQa2 h_) (fun f_ h_ => ivX hQa3 h_) (fun f_ h_ => ivX hQa4 h_)) mv_X6_wet wd_30_14 ⟨Nat.le_of_ble_eq_true rfl, Nat.le_of_ble_eq_true rfl⟩ ⟨Nat.le_of_ble_eq_true rfl, Nat.le_of_ble_eq_true rfl⟩ hC hS (tRecv hK hC (by rw [show eT (eC l G k tC aX aV) h0 = 28 from hh0]; rfl) clX6) rfl hl.1 (Nat.le_of_ble_eq_true rfl) dL_law_348 (fun v0 H1 locs hq hk_ hS => ?_)
  obtain ⟨f0_0, hN_⟩ := hq
  have hM := keptM hdis hM hk_
  have hC : TH (eC l G k tC aX aV) (tbC (dayD (.inl (0, 18))) (dayD (.inl (0, 18))) (riverD (.inl (x1, x1)) (.inl (y1, y1)) (.inl (0, 4)) 31 33 35 39 43 47) (riverD (.inl (x2, x2)) (.inl (y2, y2)) (.inl (0, 4)) 32 34 36 40 44 48) (rcD (.inl (t, t)) (.inr kr) (.inr ks) (.inl (kb, kb))) (rdD (.inl (0, 400)) (.inl (0, 400)) (.inl (0, 4000)) (.inl (0, 1)) (.inr [26, 27])) (xB 400 T) A14F A14F A4F A4F A14F A14F (riverD (.inl (x3, x3)) (.inl (y3, y3)) (.inl (0, 4)) 3 8 3 41 45 49) (riverD (.inl (x4, x4)) (.inl (y4, y4)) (.inl (0, 4)) 3 8 3 42 46 50) (xD 12 Da1) (xD 12 Da2) (xD 12 Da3) (xD 12 Da4) (xD 12 Sa1) (xD 12 Sa2) (xD 12 Sa3) (xD 12 Sa4) (xD 48 Qa1) (xD 48 Qa2) (xD 48 Qa3) (xD 48 Qa4)) H1 := hN_
  refine lv_pop hx hb dL_law_351 rfl ?_
  refine lv_aload_n hx hb dL_law_352 rfl (lv_at hl 1 rfl) ?_
  refine lv_aload_n hx hb dL_law_353 rfl (lv_at hl 3 rfl) ?_
  refine lv_iload_n hx hb dL_law_354 rfl (lv_at hl 0 rfl) ?_
  refine lv_iconst (v := 1) hx hb dL_law_355 (by decide) ?_
  refine lv_iadd hx hb dL_law_356 ?_
  refine va_sld hx hb hX hbl hbA hS (vinT (by rw [hk1]; omega)) dL_law_357 ?_
  refine lv_topi (fun a1_1 ea1_1 => ?_)
  obtain rfl : a1_0 = a1_1 := ea1_0.trans ea1_1.symm
  refine lawVi (E := (eM l G k tM aX aV)) (b := g0) (As := [.int a1_0]) (rest := []) F hK hN hOm hTm (c_X7_wet (eM l G k tM aX aV) (xD 1320 V0) (xD 660 A0) (xD 660 B1) m_second (xB 400 T) (xZ 2 K0) (0, 18) (((-2147483648), 2147483647)) (t, t) (((-2147483648), 2147483647)) (0, 4000) (((-2147483648), 2147483647)) (((-2147483648), 2147483647)) (0, 1) u X0 W0 Z g0 a1_0 (List.mem_singleton.mpr hg0) (by omega) hX0 hW0 hmW0 hqX0) mv_X7_wet wd_30_19 ⟨Nat.le_of_ble_eq_true rfl, Nat.le_of_ble_eq_true rfl⟩ ⟨Nat.le_of_ble_eq_true rfl, Nat.le_of_ble_eq_true rfl⟩ hM hS (tRecv hK hM (by rw [show eT (eM l G k tM aX aV) g0 = 24 from hg0]; rfl) clX7) rfl hl.1 (Nat.le_of_ble_eq_true rfl) dL_law_358 (fun v1 H1 locs hq hk_ hS => ?_)
  obtain ⟨u2_1, hu2_1, Wb_1, hWb_1, X2_1, hX2_1, f1_0, hN_⟩ := hq
  have hC := keptC hdis hC hk_
  have hM : TH (eM l G k tM aX aV) (tbM (mD (.inl (t, t)) (.inl (-2147483648, 2147483647)) (.inl (-2147483648, 2147483647)) (.inl (u2_1, u2_1)) (.inl (0, 18)) (.inl (-2147483648, 2147483647)) (.inl (0, 4000)) (.inl (-2147483648, 2147483647)) (.inl (0, 1))) (xD 660 X2_1) (xD 6600 Wb_1) (xD 1320 V0) (xD 660 A0) (xD 660 B1) m_second (xB 400 T) (xZ 2 K0)) H1 := hN_
  refine lv_pop hx hb dL_law_361 rfl ?_
  refine lv_goto (tgt := 1529) hx hb dL_law_362 (by decide) ?_
  have hG_ : ((kr = [26] ∧ ks = [27]) ∨ (kr = [27] ∧ ks = [26])) ∧ (0 ≤ kb ∧ kb ≤ 3) ∧ (0 ≤ x1 ∧ x1 ≤ 12) ∧ (0 ≤ y1 ∧ y1 ≤ 14) ∧ (0 ≤ x2 ∧ x2 ≤ 12) ∧ (0 ≤ y2 ∧ y2 ≤ 14) ∧ (0 ≤ x3 ∧ x3 ≤ 12) ∧ (0 ≤ y3 ∧ y3 ≤ 14) ∧ (0 ≤ x4 ∧ x4 ≤ 12) ∧ (0 ≤ y4 ∧ y4 ≤ 14) ∧ ivP 12 (-2) 11 Da1 ∧ ivP 12 (-2147483648) 2147483647 Sa1 ∧ ivP 48 (-2147483648) 2147483647 Qa1 ∧ ivP 12 (-2) 11 Da2 ∧ ivP 12 (-2147483648) 2147483647 Sa2 ∧ ivP 48 (-2147483648) 2147483647 Qa2 ∧ ivP 12 (-2) 11 Da3 ∧ ivP 12 (-2147483648) 2147483647 Sa3 ∧ ivP 48 (-2147483648) 2147483647 Qa3 ∧ ivP 12 (-2) 11 Da4 ∧ ivP 12 (-2147483648) 2147483647 Sa4 ∧ ivP 48 (-2147483648) 2147483647 Qa4 := ⟨hkk, (by omega), (by omega), (by omega), (by omega), (by omega), (by omega), (by omega), (by omega), (by omega), hDa1, hSa1, hQa1, hDa2, hSa2, hQa2, hDa3, hSa3, hQa3, hDa4, hSa4, hQa4⟩
  exact hend t T (kr, ks, kb, x1, y1, x2, y2, x3, y3, x4, y4, Da1, Sa1, Qa1, Da2, Sa2, Qa2, Da3, Sa3, Qa3, Da4, Sa4, Qa4) _ _ ⟨(by omega), hT8⟩ hG_ hC ⟨X2_1, Wb_1, V0, A0, B1, K0, Z, Y0, Y1, u2_1, (by omega), hX2_1.1, hWb_1.1, hV0, hA0, hK0, hX2_1.2, hWb_1.2, hy0, hy1, hTie, hM⟩ hS
set_option maxHeartbeats 4000000 in
set_option maxRecDepth 100000 in
theorem law_c5 {pg_ : Program} {l : Launch} {ev_ : Env} {s : State} {mi_ : MethodId} {below_ : List Frame} {meth : Method} {cd_ : Code} {H : Heap} {locs : List Loc} {ls : Array Slot} {b L : Nat} {xs : Nat → Int32} {G : va_G} {k : Nat → ClassId} {tC tM aX aV : Nat → Nat} {h0 g0 : Nat} {i : Int32} {t : Int} {T : RwF} {g : Gs} (B0 : LB pg_ s mi_ meth cd_ b L xs l G k tC tM aX aV h0 g0) (hi : 0 ≤ i.toInt ∧ i.toInt + 6 ≤ L) (ht : (0 ≤ t ∧ t ≤ 400) ∧ ivP 400 (-128) 127 T) (hg : Gok g) (hC : Cs (eC l G k tC aX aV) t T g H) (hMs : Ms (eM l G k tM aX aV) t T g H) (hS : va_S (lawA s) s.heap H locs) (hl : lv_has ls 4 [(3, .int i), (2, .ref g0), (1, .ref h0), (0, .ref b)]) (hend : ∀ (t : Int) (T : RwF) (g : Gs) (H : Heap) (locs : List Loc), ((0 ≤ t ∧ t ≤ 400) ∧ ivP 400 (-128) 127 T) → Gok g → Cs (eC l G k tC aX aV) t T g H → Ms (eM l G k tM aX aV) t T g H → va_S (lawA s) s.heap H locs → W pg_ l ev_ room_1 s mi_ #[Value.ref b] below_ meth cd_ H locs 294 18964 (lw_Z below_ #[Value.ref b] s) (F0 mi_ 1529 ls [])) : W pg_ l ev_ room_1 s mi_ #[Value.ref b] below_ meth cd_ H locs 294 18964 (lw_Z below_ #[Value.ref b] s) (F0 mi_ 365 ls []) := by
  obtain ⟨F, hK, hN, hOc, hOm, hX, hbl, hL, hTc, hTm, hdis, hh0, hg0⟩ := id B0
  obtain ⟨hx, hb, hr, hml, hown, hlk, hw, -⟩ := id F
  have hbA : ¬ lawA s b := fun q => absurd q (by unfold lawA; omega)
  obtain ⟨kr, ks, kb, x1, y1, x2, y2, x3, y3, x4, y4, Da1, Sa1, Qa1, Da2, Sa2, Qa2, Da3, Sa3, Qa3, Da4, Sa4, Qa4⟩ := g
  obtain ⟨X0, W0, V0, A0, B1, K0, Z, Y0, Y1, u, hu, hX0, hW0, hV0, hA0, hK0, hqX0, hmW0, hy0, hy1, hTie0, hM⟩ := hMs
  obtain ⟨ht, hT8⟩ := ht
  have hg : ((kr = [26] ∧ ks = [27]) ∨ (kr = [27] ∧ ks = [26])) ∧ (0 ≤ kb ∧ kb ≤ 3) ∧ (0 ≤ x1 ∧ x1 ≤ 12) ∧ (0 ≤ y1 ∧ y1 ≤ 14) ∧ (0 ≤ x2 ∧ x2 ≤ 12) ∧ (0 ≤ y2 ∧ y2 ≤ 14) ∧ (0 ≤ x3 ∧ x3 ≤ 12) ∧ (0 ≤ y3 ∧ y3 ≤ 14) ∧ (0 ≤ x4 ∧ x4 ≤ 12) ∧ (0 ≤ y4 ∧ y4 ≤ 14) ∧ ivP 12 (-2) 11 Da1 ∧ ivP 12 (-2147483648) 2147483647 Sa1 ∧ ivP 48 (-2147483648) 2147483647 Qa1 ∧ ivP 12 (-2) 11 Da2 ∧ ivP 12 (-2147483648) 2147483647 Sa2 ∧ ivP 48 (-2147483648) 2147483647 Qa2 ∧ ivP 12 (-2) 11 Da3 ∧ ivP 12 (-2147483648) 2147483647 Sa3 ∧ ivP 48 (-2147483648) 2147483647 Qa3 ∧ ivP 12 (-2) 11 Da4 ∧ ivP 12 (-2147483648) 2147483647 Sa4 ∧ ivP 48 (-2147483648) 2147483647 Qa4 := hg
  obtain ⟨hkk, hkb, hx1, hy1_, hx2, hy2_, hx3, hy3_, hx4, hy4_, hDa1, hSa1, hQa1, hDa2, hSa2, hQa2, hDa3, hSa3, hQa3, hDa4, hSa4, hQa4⟩ := hg
  have hC : TH (eC l G k tC aX aV) (tbC (dayD (.inl (0, 18))) (dayD (.inl (0, 18))) (riverD (.inl (x1, x1)) (.inl (y1, y1)) (.inl (0, 4)) 31 33 35 39 43 47) (riverD (.inl (x2, x2)) (.inl (y2, y2)) (.inl (0, 4)) 32 34 36 40 44 48) (rcD (.inl (t, t)) (.inr kr) (.inr ks) (.inl (kb, kb))) (rdD (.inl (0, 400)) (.inl (0, 400)) (.inl (0, 4000)) (.inl (0, 1)) (.inr [26, 27])) (xB 400 T) A14F A14F A4F A4F A14F A14F (riverD (.inl (x3, x3)) (.inl (y3, y3)) (.inl (0, 4)) 3 8 3 41 45 49) (riverD (.inl (x4, x4)) (.inl (y4, y4)) (.inl (0, 4)) 3 8 3 42 46 50) (xD 12 Da1) (xD 12 Da2) (xD 12 Da3) (xD 12 Da4) (xD 12 Sa1) (xD 12 Sa2) (xD 12 Sa3) (xD 12 Sa4) (xD 48 Qa1) (xD 48 Qa2) (xD 48 Qa3) (xD 48 Qa4)) H := hC
  have hTie : (kr = [26] → rowT x1 Da1 Sa1 Qa1 Z) ∧ (kr = [27] → rowT x2 Da2 Sa2 Qa2 Z) ∧ gI K0 0 = kb % 2 ∧ gI K0 1 = kb / 2 ∧ (kb % 2 = 1 → rowT x3 Da3 Sa3 Qa3 Y0) ∧ (kb / 2 = 1 → rowT x4 Da4 Sa4 Qa4 Y1) := hTie0
  clear hTie0
  have hk1 : (i + 1).toInt = i.toInt + 1 := by
    have h1 := i_add (x := i) (y := 1) (by rw [show (1 : Int32).toInt = 1 by decide]; omega) (by rw [show (1 : Int32).toInt = 1 by decide]; omega)
    rw [show (1 : Int32).toInt = 1 by decide] at h1
    exact h1
  have hk2 : (i + 2).toInt = i.toInt + 2 := by
    have h1 := i_add (x := i) (y := 2) (by rw [show (2 : Int32).toInt = 2 by decide]; omega) (by rw [show (2 : Int32).toInt = 2 by decide]; omega)
    rw [show (2 : Int32).toInt = 2 by decide] at h1
    exact h1
  refine lv_aload_n hx hb dL_law_365 rfl (lv_at hl 2 rfl) ?_
  refine lv_aload_n hx hb dL_law_366 rfl (lv_at hl 3 rfl) ?_
  refine lv_iload_n hx hb dL_law_367 rfl (lv_at hl 0 rfl) ?_
  refine lv_iconst (v := 1) hx hb dL_law_368 (by decide) ?_
  refine lv_iadd hx hb dL_law_369 ?_
  refine va_sld hx hb hX hbl hbA hS (vinT (by rw [hk1]; omega)) dL_law_370 ?_
  refine lv_topi (fun a1_0 ea1_0 => ?_)
  refine lv_aload_n hx hb dL_law_371 rfl (lv_at hl 3 rfl) ?_
  refine lv_iload_n hx hb dL_law_372 rfl (lv_at hl 0 rfl) ?_
  refine lv_iconst (v := 2) hx hb dL_law_373 (by decide) ?_
  refine lv_iadd hx hb dL_law_374 ?_
  refine va_sld hx hb hX hbl hbA hS (vinT (by rw [hk2]; omega)) dL_law_375 ?_
  refine lv_topi (fun a2_0 ea2_0 => ?_)
  have hkr : ∀ t ∈ kr, t ∈ [26, 27] := by rcases hkk with ⟨h9_, -⟩ | ⟨h9_, -⟩ <;> rw [h9_] <;> decide
  have hks : ∀ t ∈ ks, t ∈ [26, 27] := by rcases hkk with ⟨-, h9_⟩ | ⟨-, h9_⟩ <;> rw [h9_] <;> decide
  refine lawVi (E := (eC l G k tC aX aV)) (b := h0) (As := [.int a1_0, .int a2_0]) (rest := []) F hK hN hOc hTc (c_X6_demand (eC l G k tC aX aV) (rdD (.inl (0, 400)) (.inl (0, 400)) (.inl (0, 4000)) (.inl (0, 1)) (.inr [26, 27])) (xB 400 T) (kb, kb) (x1, x1) (y1, y1) (x2, x2) (y2, y2) (x3, x3) (y3, y3) (x4, x4) (y4, y4) kr ks (fun f_ => f_ = Da1) (fun f_ => f_ = Da2) (fun f_ => f_ = Da3) (fun f_ => f_ = Da4) (fun f_ => f_ = Sa1) (fun f_ => f_ = Sa2) (fun f_ => f_ = Sa3) (fun f_ => f_ = Sa4) (fun f_ => f_ = Qa1) (fun f_ => f_ = Qa2) (fun f_ => f_ = Qa3) (fun f_ => f_ = Qa4) t h0 a1_0 a2_0 (List.mem_singleton.mpr hh0) (by omega) (by show 0 ≤ x1 ∧ x1 ≤ 12; omega) (by show 0 ≤ y1 ∧ y1 ≤ 14; omega) (by show 0 ≤ x2 ∧ x2 ≤ 12; omega) (by show 0 ≤ y2 ∧ y2 ≤ 14; omega) (by show 0 ≤ x3 ∧ x3 ≤ 12; omega) (by show 0 ≤ y3 ∧ y3 ≤ 14; omega) (by show 0 ≤ x4 ∧ x4 ≤ 12; omega) (by show 0 ≤ y4 ∧ y4 ≤ 14; omega) hkr hks (fun f_ h_ => ivX hDa1 h_) (fun f_ h_ => ivX hDa2 h_) (fun f_ h_ => ivX hDa3 h_) (fun f_ h_ => ivX hDa4 h_) (fun f_ h_ => ivX hSa1 h_) (fun f_ h_ => ivX hSa2 h_) (fun f_ h_ => ivX hSa3 h_) (fun f_ h_ => ivX hSa4 h_) (fun f_ h_ => ivX hQa1 h_) (fun f_ h_ => ivX hQa2 h_) (fun f_ h_ => ivX hQa3 h_) (fun f_ h_ => ivX hQa4 h_)) mv_X6_demand wd_31_4 ⟨Nat.le_of_ble_eq_true rfl, Nat.le_of_ble_eq_true rfl⟩ ⟨Nat.le_of_ble_eq_true rfl, Nat.le_of_ble_eq_true rfl⟩ hC hS (tRecv hK hC (by rw [show eT (eC l G k tC aX aV) h0 = 28 from hh0]; rfl) clX6) rfl hl.1 (Nat.le_of_ble_eq_true rfl) dL_law_376 (fun v0 H1 locs hq hk_ hS => ?_)
  obtain ⟨f0_0, hN_⟩ := hq
  have hM := keptM hdis hM hk_
  have hC : TH (eC l G k tC aX aV) (tbC (dayD (.inl (0, 18))) (dayD (.inl (0, 18))) (riverD (.inl (x1, x1)) (.inl (y1, y1)) (.inl (0, 4)) 31 33 35 39 43 47) (riverD (.inl (x2, x2)) (.inl (y2, y2)) (.inl (0, 4)) 32 34 36 40 44 48) (rcD (.inl (t, t)) (.inr kr) (.inr ks) (.inl (kb, kb))) (rdD (.inl (0, 400)) (.inl (0, 400)) (.inl (0, 4000)) (.inl (0, 1)) (.inr [26, 27])) (xB 400 T) A14F A14F A4F A4F A14F A14F (riverD (.inl (x3, x3)) (.inl (y3, y3)) (.inl (0, 4)) 3 8 3 41 45 49) (riverD (.inl (x4, x4)) (.inl (y4, y4)) (.inl (0, 4)) 3 8 3 42 46 50) (xD 12 Da1) (xD 12 Da2) (xD 12 Da3) (xD 12 Da4) (xD 12 Sa1) (xD 12 Sa2) (xD 12 Sa3) (xD 12 Sa4) (xD 48 Qa1) (xD 48 Qa2) (xD 48 Qa3) (xD 48 Qa4)) H1 := hN_
  refine lv_pop hx hb dL_law_379 rfl ?_
  refine lv_aload_n hx hb dL_law_380 rfl (lv_at hl 1 rfl) ?_
  refine lv_aload_n hx hb dL_law_381 rfl (lv_at hl 3 rfl) ?_
  refine lv_iload_n hx hb dL_law_382 rfl (lv_at hl 0 rfl) ?_
  refine lv_iconst (v := 1) hx hb dL_law_383 (by decide) ?_
  refine lv_iadd hx hb dL_law_384 ?_
  refine va_sld hx hb hX hbl hbA hS (vinT (by rw [hk1]; omega)) dL_law_385 ?_
  refine lv_topi (fun a1_1 ea1_1 => ?_)
  obtain rfl : a1_0 = a1_1 := ea1_0.trans ea1_1.symm
  refine lv_aload_n hx hb dL_law_386 rfl (lv_at hl 3 rfl) ?_
  refine lv_iload_n hx hb dL_law_387 rfl (lv_at hl 0 rfl) ?_
  refine lv_iconst (v := 2) hx hb dL_law_388 (by decide) ?_
  refine lv_iadd hx hb dL_law_389 ?_
  refine va_sld hx hb hX hbl hbA hS (vinT (by rw [hk2]; omega)) dL_law_390 ?_
  refine lv_topi (fun a2_1 ea2_1 => ?_)
  obtain rfl : a2_0 = a2_1 := ea2_0.trans ea2_1.symm
  refine lawVi (E := (eM l G k tM aX aV)) (b := g0) (As := [.int a1_0, .int a2_0]) (rest := []) F hK hN hOm hTm (c_X7_demand (eM l G k tM aX aV) (xD 1320 V0) (xD 660 A0) (xD 660 B1) m_second (xB 400 T) (xZ 2 K0) (0, 18) (((-2147483648), 2147483647)) (t, t) (((-2147483648), 2147483647)) (0, 4000) (((-2147483648), 2147483647)) (((-2147483648), 2147483647)) (0, 1) u X0 W0 Z g0 a1_0 a2_0 (List.mem_singleton.mpr hg0) (by omega) hX0 hW0 hmW0 hqX0) mv_X7_demand wd_31_14 ⟨Nat.le_of_ble_eq_true rfl, Nat.le_of_ble_eq_true rfl⟩ ⟨Nat.le_of_ble_eq_true rfl, Nat.le_of_ble_eq_true rfl⟩ hM hS (tRecv hK hM (by rw [show eT (eM l G k tM aX aV) g0 = 24 from hg0]; rfl) clX7) rfl hl.1 (Nat.le_of_ble_eq_true rfl) dL_law_391 (fun v1 H1 locs hq hk_ hS => ?_)
  obtain ⟨u2_1, hu2_1, Wb_1, hWb_1, X2_1, hX2_1, f1_0, hN_⟩ := hq
  have hC := keptC hdis hC hk_
  have hM : TH (eM l G k tM aX aV) (tbM (mD (.inl (t, t)) (.inl (-2147483648, 2147483647)) (.inl (-2147483648, 2147483647)) (.inl (u2_1, u2_1)) (.inl (0, 18)) (.inl (-2147483648, 2147483647)) (.inl (0, 4000)) (.inl (-2147483648, 2147483647)) (.inl (0, 1))) (xD 660 X2_1) (xD 6600 Wb_1) (xD 1320 V0) (xD 660 A0) (xD 660 B1) m_second (xB 400 T) (xZ 2 K0)) H1 := hN_
  refine lv_pop hx hb dL_law_394 rfl ?_
  refine lv_goto (tgt := 1529) hx hb dL_law_395 (by decide) ?_
  have hG_ : ((kr = [26] ∧ ks = [27]) ∨ (kr = [27] ∧ ks = [26])) ∧ (0 ≤ kb ∧ kb ≤ 3) ∧ (0 ≤ x1 ∧ x1 ≤ 12) ∧ (0 ≤ y1 ∧ y1 ≤ 14) ∧ (0 ≤ x2 ∧ x2 ≤ 12) ∧ (0 ≤ y2 ∧ y2 ≤ 14) ∧ (0 ≤ x3 ∧ x3 ≤ 12) ∧ (0 ≤ y3 ∧ y3 ≤ 14) ∧ (0 ≤ x4 ∧ x4 ≤ 12) ∧ (0 ≤ y4 ∧ y4 ≤ 14) ∧ ivP 12 (-2) 11 Da1 ∧ ivP 12 (-2147483648) 2147483647 Sa1 ∧ ivP 48 (-2147483648) 2147483647 Qa1 ∧ ivP 12 (-2) 11 Da2 ∧ ivP 12 (-2147483648) 2147483647 Sa2 ∧ ivP 48 (-2147483648) 2147483647 Qa2 ∧ ivP 12 (-2) 11 Da3 ∧ ivP 12 (-2147483648) 2147483647 Sa3 ∧ ivP 48 (-2147483648) 2147483647 Qa3 ∧ ivP 12 (-2) 11 Da4 ∧ ivP 12 (-2147483648) 2147483647 Sa4 ∧ ivP 48 (-2147483648) 2147483647 Qa4 := ⟨hkk, (by omega), (by omega), (by omega), (by omega), (by omega), (by omega), (by omega), (by omega), (by omega), hDa1, hSa1, hQa1, hDa2, hSa2, hQa2, hDa3, hSa3, hQa3, hDa4, hSa4, hQa4⟩
  exact hend t T (kr, ks, kb, x1, y1, x2, y2, x3, y3, x4, y4, Da1, Sa1, Qa1, Da2, Sa2, Qa2, Da3, Sa3, Qa3, Da4, Sa4, Qa4) _ _ ⟨(by omega), hT8⟩ hG_ hC ⟨X2_1, Wb_1, V0, A0, B1, K0, Z, Y0, Y1, u2_1, (by omega), hX2_1.1, hWb_1.1, hV0, hA0, hK0, hX2_1.2, hWb_1.2, hy0, hy1, hTie, hM⟩ hS
set_option maxHeartbeats 4000000 in
set_option maxRecDepth 100000 in
theorem law_c6 {pg_ : Program} {l : Launch} {ev_ : Env} {s : State} {mi_ : MethodId} {below_ : List Frame} {meth : Method} {cd_ : Code} {H : Heap} {locs : List Loc} {ls : Array Slot} {b L : Nat} {xs : Nat → Int32} {G : va_G} {k : Nat → ClassId} {tC tM aX aV : Nat → Nat} {h0 g0 : Nat} {i : Int32} {t : Int} {T : RwF} {g : Gs} (B0 : LB pg_ s mi_ meth cd_ b L xs l G k tC tM aX aV h0 g0) (hi : 0 ≤ i.toInt ∧ i.toInt + 6 ≤ L) (ht : (0 ≤ t ∧ t ≤ 400) ∧ ivP 400 (-128) 127 T) (hg : Gok g) (hC : Cs (eC l G k tC aX aV) t T g H) (hMs : Ms (eM l G k tM aX aV) t T g H) (hS : va_S (lawA s) s.heap H locs) (hl : lv_has ls 4 [(3, .int i), (2, .ref g0), (1, .ref h0), (0, .ref b)]) (hend : ∀ (t : Int) (T : RwF) (g : Gs) (H : Heap) (locs : List Loc), ((0 ≤ t ∧ t ≤ 400) ∧ ivP 400 (-128) 127 T) → Gok g → Cs (eC l G k tC aX aV) t T g H → Ms (eM l G k tM aX aV) t T g H → va_S (lawA s) s.heap H locs → W pg_ l ev_ room_1 s mi_ #[Value.ref b] below_ meth cd_ H locs 294 18964 (lw_Z below_ #[Value.ref b] s) (F0 mi_ 1529 ls [])) : W pg_ l ev_ room_1 s mi_ #[Value.ref b] below_ meth cd_ H locs 294 18964 (lw_Z below_ #[Value.ref b] s) (F0 mi_ 398 ls []) := by
  obtain ⟨F, hK, hN, hOc, hOm, hX, hbl, hL, hTc, hTm, hdis, hh0, hg0⟩ := id B0
  obtain ⟨hx, hb, hr, hml, hown, hlk, hw, -⟩ := id F
  have hbA : ¬ lawA s b := fun q => absurd q (by unfold lawA; omega)
  obtain ⟨kr, ks, kb, x1, y1, x2, y2, x3, y3, x4, y4, Da1, Sa1, Qa1, Da2, Sa2, Qa2, Da3, Sa3, Qa3, Da4, Sa4, Qa4⟩ := g
  obtain ⟨X0, W0, V0, A0, B1, K0, Z, Y0, Y1, u, hu, hX0, hW0, hV0, hA0, hK0, hqX0, hmW0, hy0, hy1, hTie0, hM⟩ := hMs
  obtain ⟨ht, hT8⟩ := ht
  have hg : ((kr = [26] ∧ ks = [27]) ∨ (kr = [27] ∧ ks = [26])) ∧ (0 ≤ kb ∧ kb ≤ 3) ∧ (0 ≤ x1 ∧ x1 ≤ 12) ∧ (0 ≤ y1 ∧ y1 ≤ 14) ∧ (0 ≤ x2 ∧ x2 ≤ 12) ∧ (0 ≤ y2 ∧ y2 ≤ 14) ∧ (0 ≤ x3 ∧ x3 ≤ 12) ∧ (0 ≤ y3 ∧ y3 ≤ 14) ∧ (0 ≤ x4 ∧ x4 ≤ 12) ∧ (0 ≤ y4 ∧ y4 ≤ 14) ∧ ivP 12 (-2) 11 Da1 ∧ ivP 12 (-2147483648) 2147483647 Sa1 ∧ ivP 48 (-2147483648) 2147483647 Qa1 ∧ ivP 12 (-2) 11 Da2 ∧ ivP 12 (-2147483648) 2147483647 Sa2 ∧ ivP 48 (-2147483648) 2147483647 Qa2 ∧ ivP 12 (-2) 11 Da3 ∧ ivP 12 (-2147483648) 2147483647 Sa3 ∧ ivP 48 (-2147483648) 2147483647 Qa3 ∧ ivP 12 (-2) 11 Da4 ∧ ivP 12 (-2147483648) 2147483647 Sa4 ∧ ivP 48 (-2147483648) 2147483647 Qa4 := hg
  obtain ⟨hkk, hkb, hx1, hy1_, hx2, hy2_, hx3, hy3_, hx4, hy4_, hDa1, hSa1, hQa1, hDa2, hSa2, hQa2, hDa3, hSa3, hQa3, hDa4, hSa4, hQa4⟩ := hg
  have hC : TH (eC l G k tC aX aV) (tbC (dayD (.inl (0, 18))) (dayD (.inl (0, 18))) (riverD (.inl (x1, x1)) (.inl (y1, y1)) (.inl (0, 4)) 31 33 35 39 43 47) (riverD (.inl (x2, x2)) (.inl (y2, y2)) (.inl (0, 4)) 32 34 36 40 44 48) (rcD (.inl (t, t)) (.inr kr) (.inr ks) (.inl (kb, kb))) (rdD (.inl (0, 400)) (.inl (0, 400)) (.inl (0, 4000)) (.inl (0, 1)) (.inr [26, 27])) (xB 400 T) A14F A14F A4F A4F A14F A14F (riverD (.inl (x3, x3)) (.inl (y3, y3)) (.inl (0, 4)) 3 8 3 41 45 49) (riverD (.inl (x4, x4)) (.inl (y4, y4)) (.inl (0, 4)) 3 8 3 42 46 50) (xD 12 Da1) (xD 12 Da2) (xD 12 Da3) (xD 12 Da4) (xD 12 Sa1) (xD 12 Sa2) (xD 12 Sa3) (xD 12 Sa4) (xD 48 Qa1) (xD 48 Qa2) (xD 48 Qa3) (xD 48 Qa4)) H := hC
  have hTie : (kr = [26] → rowT x1 Da1 Sa1 Qa1 Z) ∧ (kr = [27] → rowT x2 Da2 Sa2 Qa2 Z) ∧ gI K0 0 = kb % 2 ∧ gI K0 1 = kb / 2 ∧ (kb % 2 = 1 → rowT x3 Da3 Sa3 Qa3 Y0) ∧ (kb / 2 = 1 → rowT x4 Da4 Sa4 Qa4 Y1) := hTie0
  clear hTie0
  have hk1 : (i + 1).toInt = i.toInt + 1 := by
    have h1 := i_add (x := i) (y := 1) (by rw [show (1 : Int32).toInt = 1 by decide]; omega) (by rw [show (1 : Int32).toInt = 1 by decide]; omega)
    rw [show (1 : Int32).toInt = 1 by decide] at h1
    exact h1
  have hk2 : (i + 2).toInt = i.toInt + 2 := by
    have h1 := i_add (x := i) (y := 2) (by rw [show (2 : Int32).toInt = 2 by decide]; omega) (by rw [show (2 : Int32).toInt = 2 by decide]; omega)
    rw [show (2 : Int32).toInt = 2 by decide] at h1
    exact h1
  have hk3 : (i + 3).toInt = i.toInt + 3 := by
    have h1 := i_add (x := i) (y := 3) (by rw [show (3 : Int32).toInt = 3 by decide]; omega) (by rw [show (3 : Int32).toInt = 3 by decide]; omega)
    rw [show (3 : Int32).toInt = 3 by decide] at h1
    exact h1
  refine lv_aload_n hx hb dL_law_398 rfl (lv_at hl 2 rfl) ?_
  refine lv_aload_n hx hb dL_law_399 rfl (lv_at hl 3 rfl) ?_
  refine lv_iload_n hx hb dL_law_400 rfl (lv_at hl 0 rfl) ?_
  refine lv_iconst (v := 1) hx hb dL_law_401 (by decide) ?_
  refine lv_iadd hx hb dL_law_402 ?_
  refine va_sld hx hb hX hbl hbA hS (vinT (by rw [hk1]; omega)) dL_law_403 ?_
  refine lv_topi (fun a1_0 ea1_0 => ?_)
  refine lv_aload_n hx hb dL_law_404 rfl (lv_at hl 3 rfl) ?_
  refine lv_iload_n hx hb dL_law_405 rfl (lv_at hl 0 rfl) ?_
  refine lv_iconst (v := 2) hx hb dL_law_406 (by decide) ?_
  refine lv_iadd hx hb dL_law_407 ?_
  refine va_sld hx hb hX hbl hbA hS (vinT (by rw [hk2]; omega)) dL_law_408 ?_
  refine lv_topi (fun a2_0 ea2_0 => ?_)
  refine lv_aload_n hx hb dL_law_409 rfl (lv_at hl 3 rfl) ?_
  refine lv_iload_n hx hb dL_law_410 rfl (lv_at hl 0 rfl) ?_
  refine lv_iconst (v := 3) hx hb dL_law_411 (by decide) ?_
  refine lv_iadd hx hb dL_law_412 ?_
  refine va_sld hx hb hX hbl hbA hS (vinT (by rw [hk3]; omega)) dL_law_413 ?_
  refine lv_topi (fun a3_0 ea3_0 => ?_)
  have hkr : ∀ t ∈ kr, t ∈ [26, 27] := by rcases hkk with ⟨h9_, -⟩ | ⟨h9_, -⟩ <;> rw [h9_] <;> decide
  have hks : ∀ t ∈ ks, t ∈ [26, 27] := by rcases hkk with ⟨-, h9_⟩ | ⟨-, h9_⟩ <;> rw [h9_] <;> decide
  refine lawVi (E := (eC l G k tC aX aV)) (b := h0) (As := [.int a1_0, .int a2_0, .int a3_0]) (rest := []) F hK hN hOc hTc (c_X6_order (eC l G k tC aX aV) (rdD (.inl (0, 400)) (.inl (0, 400)) (.inl (0, 4000)) (.inl (0, 1)) (.inr [26, 27])) (xB 400 T) (kb, kb) (x1, x1) (y1, y1) (x2, x2) (y2, y2) (x3, x3) (y3, y3) (x4, x4) (y4, y4) kr ks (fun f_ => f_ = Da1) (fun f_ => f_ = Da2) (fun f_ => f_ = Da3) (fun f_ => f_ = Da4) (fun f_ => f_ = Sa1) (fun f_ => f_ = Sa2) (fun f_ => f_ = Sa3) (fun f_ => f_ = Sa4) (fun f_ => f_ = Qa1) (fun f_ => f_ = Qa2) (fun f_ => f_ = Qa3) (fun f_ => f_ = Qa4) t h0 a1_0 a2_0 a3_0 (List.mem_singleton.mpr hh0) (by omega) (by show 0 ≤ x1 ∧ x1 ≤ 12; omega) (by show 0 ≤ y1 ∧ y1 ≤ 14; omega) (by show 0 ≤ x2 ∧ x2 ≤ 12; omega) (by show 0 ≤ y2 ∧ y2 ≤ 14; omega) (by show 0 ≤ x3 ∧ x3 ≤ 12; omega) (by show 0 ≤ y3 ∧ y3 ≤ 14; omega) (by show 0 ≤ x4 ∧ x4 ≤ 12; omega) (by show 0 ≤ y4 ∧ y4 ≤ 14; omega) hkr hks (fun f_ h_ => ivX hDa1 h_) (fun f_ h_ => ivX hDa2 h_) (fun f_ h_ => ivX hDa3 h_) (fun f_ h_ => ivX hDa4 h_) (fun f_ h_ => ivX hSa1 h_) (fun f_ h_ => ivX hSa2 h_) (fun f_ h_ => ivX hSa3 h_) (fun f_ h_ => ivX hSa4 h_) (fun f_ h_ => ivX hQa1 h_) (fun f_ h_ => ivX hQa2 h_) (fun f_ h_ => ivX hQa3 h_) (fun f_ h_ => ivX hQa4 h_)) mv_X6_order wd_31_22 ⟨Nat.le_of_ble_eq_true rfl, Nat.le_of_ble_eq_true rfl⟩ ⟨Nat.le_of_ble_eq_true rfl, Nat.le_of_ble_eq_true rfl⟩ hC hS (tRecv hK hC (by rw [show eT (eC l G k tC aX aV) h0 = 28 from hh0]; rfl) clX6) rfl hl.1 (Nat.le_of_ble_eq_true rfl) dL_law_414 (fun v0 H1 locs hq hk_ hS => ?_)
  obtain ⟨f0_0, hN_⟩ := hq
  have hM := keptM hdis hM hk_
  have hC : TH (eC l G k tC aX aV) (tbC (dayD (.inl (0, 18))) (dayD (.inl (0, 18))) (riverD (.inl (x1, x1)) (.inl (y1, y1)) (.inl (0, 4)) 31 33 35 39 43 47) (riverD (.inl (x2, x2)) (.inl (y2, y2)) (.inl (0, 4)) 32 34 36 40 44 48) (rcD (.inl (t, t)) (.inr kr) (.inr ks) (.inl (kb, kb))) (rdD (.inl (0, 400)) (.inl (0, 400)) (.inl (0, 4000)) (.inl (0, 1)) (.inr [26, 27])) (xB 400 T) A14F A14F A4F A4F A14F A14F (riverD (.inl (x3, x3)) (.inl (y3, y3)) (.inl (0, 4)) 3 8 3 41 45 49) (riverD (.inl (x4, x4)) (.inl (y4, y4)) (.inl (0, 4)) 3 8 3 42 46 50) (xD 12 Da1) (xD 12 Da2) (xD 12 Da3) (xD 12 Da4) (xD 12 Sa1) (xD 12 Sa2) (xD 12 Sa3) (xD 12 Sa4) (xD 48 Qa1) (xD 48 Qa2) (xD 48 Qa3) (xD 48 Qa4)) H1 := hN_
  refine lv_pop hx hb dL_law_417 rfl ?_
  refine lv_aload_n hx hb dL_law_418 rfl (lv_at hl 1 rfl) ?_
  refine lv_aload_n hx hb dL_law_419 rfl (lv_at hl 3 rfl) ?_
  refine lv_iload_n hx hb dL_law_420 rfl (lv_at hl 0 rfl) ?_
  refine lv_iconst (v := 1) hx hb dL_law_421 (by decide) ?_
  refine lv_iadd hx hb dL_law_422 ?_
  refine va_sld hx hb hX hbl hbA hS (vinT (by rw [hk1]; omega)) dL_law_423 ?_
  refine lv_topi (fun a1_1 ea1_1 => ?_)
  obtain rfl : a1_0 = a1_1 := ea1_0.trans ea1_1.symm
  refine lv_aload_n hx hb dL_law_424 rfl (lv_at hl 3 rfl) ?_
  refine lv_iload_n hx hb dL_law_425 rfl (lv_at hl 0 rfl) ?_
  refine lv_iconst (v := 2) hx hb dL_law_426 (by decide) ?_
  refine lv_iadd hx hb dL_law_427 ?_
  refine va_sld hx hb hX hbl hbA hS (vinT (by rw [hk2]; omega)) dL_law_428 ?_
  refine lv_topi (fun a2_1 ea2_1 => ?_)
  obtain rfl : a2_0 = a2_1 := ea2_0.trans ea2_1.symm
  refine lv_aload_n hx hb dL_law_429 rfl (lv_at hl 3 rfl) ?_
  refine lv_iload_n hx hb dL_law_430 rfl (lv_at hl 0 rfl) ?_
  refine lv_iconst (v := 3) hx hb dL_law_431 (by decide) ?_
  refine lv_iadd hx hb dL_law_432 ?_
  refine va_sld hx hb hX hbl hbA hS (vinT (by rw [hk3]; omega)) dL_law_433 ?_
  refine lv_topi (fun a3_1 ea3_1 => ?_)
  obtain rfl : a3_0 = a3_1 := ea3_0.trans ea3_1.symm
  refine lawVi (E := (eM l G k tM aX aV)) (b := g0) (As := [.int a1_0, .int a2_0, .int a3_0]) (rest := []) F hK hN hOm hTm (c_X7_order (eM l G k tM aX aV) (xD 1320 V0) (xD 660 A0) (xD 660 B1) m_second (xB 400 T) (xZ 2 K0) (0, 18) (((-2147483648), 2147483647)) (t, t) (((-2147483648), 2147483647)) (0, 4000) (((-2147483648), 2147483647)) (((-2147483648), 2147483647)) (0, 1) u X0 W0 Z g0 a1_0 a2_0 a3_0 (List.mem_singleton.mpr hg0) (by omega) hX0 hW0 hmW0 hqX0) mv_X7_order wd_32_12 ⟨Nat.le_of_ble_eq_true rfl, Nat.le_of_ble_eq_true rfl⟩ ⟨Nat.le_of_ble_eq_true rfl, Nat.le_of_ble_eq_true rfl⟩ hM hS (tRecv hK hM (by rw [show eT (eM l G k tM aX aV) g0 = 24 from hg0]; rfl) clX7) rfl hl.1 (Nat.le_of_ble_eq_true rfl) dL_law_434 (fun v1 H1 locs hq hk_ hS => ?_)
  obtain ⟨u2_1, hu2_1, Wb_1, hWb_1, X2_1, hX2_1, f1_0, hN_⟩ := hq
  have hC := keptC hdis hC hk_
  have hM : TH (eM l G k tM aX aV) (tbM (mD (.inl (t, t)) (.inl (-2147483648, 2147483647)) (.inl (-2147483648, 2147483647)) (.inl (u2_1, u2_1)) (.inl (0, 18)) (.inl (-2147483648, 2147483647)) (.inl (0, 4000)) (.inl (-2147483648, 2147483647)) (.inl (0, 1))) (xD 660 X2_1) (xD 6600 Wb_1) (xD 1320 V0) (xD 660 A0) (xD 660 B1) m_second (xB 400 T) (xZ 2 K0)) H1 := hN_
  refine lv_pop hx hb dL_law_437 rfl ?_
  refine lv_goto (tgt := 1529) hx hb dL_law_438 (by decide) ?_
  have hG_ : ((kr = [26] ∧ ks = [27]) ∨ (kr = [27] ∧ ks = [26])) ∧ (0 ≤ kb ∧ kb ≤ 3) ∧ (0 ≤ x1 ∧ x1 ≤ 12) ∧ (0 ≤ y1 ∧ y1 ≤ 14) ∧ (0 ≤ x2 ∧ x2 ≤ 12) ∧ (0 ≤ y2 ∧ y2 ≤ 14) ∧ (0 ≤ x3 ∧ x3 ≤ 12) ∧ (0 ≤ y3 ∧ y3 ≤ 14) ∧ (0 ≤ x4 ∧ x4 ≤ 12) ∧ (0 ≤ y4 ∧ y4 ≤ 14) ∧ ivP 12 (-2) 11 Da1 ∧ ivP 12 (-2147483648) 2147483647 Sa1 ∧ ivP 48 (-2147483648) 2147483647 Qa1 ∧ ivP 12 (-2) 11 Da2 ∧ ivP 12 (-2147483648) 2147483647 Sa2 ∧ ivP 48 (-2147483648) 2147483647 Qa2 ∧ ivP 12 (-2) 11 Da3 ∧ ivP 12 (-2147483648) 2147483647 Sa3 ∧ ivP 48 (-2147483648) 2147483647 Qa3 ∧ ivP 12 (-2) 11 Da4 ∧ ivP 12 (-2147483648) 2147483647 Sa4 ∧ ivP 48 (-2147483648) 2147483647 Qa4 := ⟨hkk, (by omega), (by omega), (by omega), (by omega), (by omega), (by omega), (by omega), (by omega), (by omega), hDa1, hSa1, hQa1, hDa2, hSa2, hQa2, hDa3, hSa3, hQa3, hDa4, hSa4, hQa4⟩
  exact hend t T (kr, ks, kb, x1, y1, x2, y2, x3, y3, x4, y4, Da1, Sa1, Qa1, Da2, Sa2, Qa2, Da3, Sa3, Qa3, Da4, Sa4, Qa4) _ _ ⟨(by omega), hT8⟩ hG_ hC ⟨X2_1, Wb_1, V0, A0, B1, K0, Z, Y0, Y1, u2_1, (by omega), hX2_1.1, hWb_1.1, hV0, hA0, hK0, hX2_1.2, hWb_1.2, hy0, hy1, hTie, hM⟩ hS
set_option maxHeartbeats 4000000 in
set_option maxRecDepth 100000 in
theorem law_c7 {pg_ : Program} {l : Launch} {ev_ : Env} {s : State} {mi_ : MethodId} {below_ : List Frame} {meth : Method} {cd_ : Code} {H : Heap} {locs : List Loc} {ls : Array Slot} {b L : Nat} {xs : Nat → Int32} {G : va_G} {k : Nat → ClassId} {tC tM aX aV : Nat → Nat} {h0 g0 : Nat} {i : Int32} {t : Int} {T : RwF} {g : Gs} (B0 : LB pg_ s mi_ meth cd_ b L xs l G k tC tM aX aV h0 g0) (hi : 0 ≤ i.toInt ∧ i.toInt + 6 ≤ L) (ht : (0 ≤ t ∧ t ≤ 400) ∧ ivP 400 (-128) 127 T) (hg : Gok g) (hC : Cs (eC l G k tC aX aV) t T g H) (hMs : Ms (eM l G k tM aX aV) t T g H) (hS : va_S (lawA s) s.heap H locs) (hl : lv_has ls 4 [(3, .int i), (2, .ref g0), (1, .ref h0), (0, .ref b)]) (hend : ∀ (t : Int) (T : RwF) (g : Gs) (H : Heap) (locs : List Loc), ((0 ≤ t ∧ t ≤ 400) ∧ ivP 400 (-128) 127 T) → Gok g → Cs (eC l G k tC aX aV) t T g H → Ms (eM l G k tM aX aV) t T g H → va_S (lawA s) s.heap H locs → W pg_ l ev_ room_1 s mi_ #[Value.ref b] below_ meth cd_ H locs 294 18964 (lw_Z below_ #[Value.ref b] s) (F0 mi_ 1529 ls [])) : W pg_ l ev_ room_1 s mi_ #[Value.ref b] below_ meth cd_ H locs 294 18964 (lw_Z below_ #[Value.ref b] s) (F0 mi_ 441 ls []) := by
  obtain ⟨F, hK, hN, hOc, hOm, hX, hbl, hL, hTc, hTm, hdis, hh0, hg0⟩ := id B0
  obtain ⟨hx, hb, hr, hml, hown, hlk, hw, -⟩ := id F
  have hbA : ¬ lawA s b := fun q => absurd q (by unfold lawA; omega)
  obtain ⟨kr, ks, kb, x1, y1, x2, y2, x3, y3, x4, y4, Da1, Sa1, Qa1, Da2, Sa2, Qa2, Da3, Sa3, Qa3, Da4, Sa4, Qa4⟩ := g
  obtain ⟨X0, W0, V0, A0, B1, K0, Z, Y0, Y1, u, hu, hX0, hW0, hV0, hA0, hK0, hqX0, hmW0, hy0, hy1, hTie0, hM⟩ := hMs
  obtain ⟨ht, hT8⟩ := ht
  have hg : ((kr = [26] ∧ ks = [27]) ∨ (kr = [27] ∧ ks = [26])) ∧ (0 ≤ kb ∧ kb ≤ 3) ∧ (0 ≤ x1 ∧ x1 ≤ 12) ∧ (0 ≤ y1 ∧ y1 ≤ 14) ∧ (0 ≤ x2 ∧ x2 ≤ 12) ∧ (0 ≤ y2 ∧ y2 ≤ 14) ∧ (0 ≤ x3 ∧ x3 ≤ 12) ∧ (0 ≤ y3 ∧ y3 ≤ 14) ∧ (0 ≤ x4 ∧ x4 ≤ 12) ∧ (0 ≤ y4 ∧ y4 ≤ 14) ∧ ivP 12 (-2) 11 Da1 ∧ ivP 12 (-2147483648) 2147483647 Sa1 ∧ ivP 48 (-2147483648) 2147483647 Qa1 ∧ ivP 12 (-2) 11 Da2 ∧ ivP 12 (-2147483648) 2147483647 Sa2 ∧ ivP 48 (-2147483648) 2147483647 Qa2 ∧ ivP 12 (-2) 11 Da3 ∧ ivP 12 (-2147483648) 2147483647 Sa3 ∧ ivP 48 (-2147483648) 2147483647 Qa3 ∧ ivP 12 (-2) 11 Da4 ∧ ivP 12 (-2147483648) 2147483647 Sa4 ∧ ivP 48 (-2147483648) 2147483647 Qa4 := hg
  obtain ⟨hkk, hkb, hx1, hy1_, hx2, hy2_, hx3, hy3_, hx4, hy4_, hDa1, hSa1, hQa1, hDa2, hSa2, hQa2, hDa3, hSa3, hQa3, hDa4, hSa4, hQa4⟩ := hg
  have hC : TH (eC l G k tC aX aV) (tbC (dayD (.inl (0, 18))) (dayD (.inl (0, 18))) (riverD (.inl (x1, x1)) (.inl (y1, y1)) (.inl (0, 4)) 31 33 35 39 43 47) (riverD (.inl (x2, x2)) (.inl (y2, y2)) (.inl (0, 4)) 32 34 36 40 44 48) (rcD (.inl (t, t)) (.inr kr) (.inr ks) (.inl (kb, kb))) (rdD (.inl (0, 400)) (.inl (0, 400)) (.inl (0, 4000)) (.inl (0, 1)) (.inr [26, 27])) (xB 400 T) A14F A14F A4F A4F A14F A14F (riverD (.inl (x3, x3)) (.inl (y3, y3)) (.inl (0, 4)) 3 8 3 41 45 49) (riverD (.inl (x4, x4)) (.inl (y4, y4)) (.inl (0, 4)) 3 8 3 42 46 50) (xD 12 Da1) (xD 12 Da2) (xD 12 Da3) (xD 12 Da4) (xD 12 Sa1) (xD 12 Sa2) (xD 12 Sa3) (xD 12 Sa4) (xD 48 Qa1) (xD 48 Qa2) (xD 48 Qa3) (xD 48 Qa4)) H := hC
  have hTie : (kr = [26] → rowT x1 Da1 Sa1 Qa1 Z) ∧ (kr = [27] → rowT x2 Da2 Sa2 Qa2 Z) ∧ gI K0 0 = kb % 2 ∧ gI K0 1 = kb / 2 ∧ (kb % 2 = 1 → rowT x3 Da3 Sa3 Qa3 Y0) ∧ (kb / 2 = 1 → rowT x4 Da4 Sa4 Qa4 Y1) := hTie0
  clear hTie0
  have hk1 : (i + 1).toInt = i.toInt + 1 := by
    have h1 := i_add (x := i) (y := 1) (by rw [show (1 : Int32).toInt = 1 by decide]; omega) (by rw [show (1 : Int32).toInt = 1 by decide]; omega)
    rw [show (1 : Int32).toInt = 1 by decide] at h1
    exact h1
  have hk2 : (i + 2).toInt = i.toInt + 2 := by
    have h1 := i_add (x := i) (y := 2) (by rw [show (2 : Int32).toInt = 2 by decide]; omega) (by rw [show (2 : Int32).toInt = 2 by decide]; omega)
    rw [show (2 : Int32).toInt = 2 by decide] at h1
    exact h1
  refine lv_aload_n hx hb dL_law_441 rfl (lv_at hl 2 rfl) ?_
  refine lv_aload_n hx hb dL_law_442 rfl (lv_at hl 3 rfl) ?_
  refine lv_iload_n hx hb dL_law_443 rfl (lv_at hl 0 rfl) ?_
  refine lv_iconst (v := 1) hx hb dL_law_444 (by decide) ?_
  refine lv_iadd hx hb dL_law_445 ?_
  refine va_sld hx hb hX hbl hbA hS (vinT (by rw [hk1]; omega)) dL_law_446 ?_
  refine lv_topi (fun a1_0 ea1_0 => ?_)
  refine lv_aload_n hx hb dL_law_447 rfl (lv_at hl 3 rfl) ?_
  refine lv_iload_n hx hb dL_law_448 rfl (lv_at hl 0 rfl) ?_
  refine lv_iconst (v := 2) hx hb dL_law_449 (by decide) ?_
  refine lv_iadd hx hb dL_law_450 ?_
  refine va_sld hx hb hX hbl hbA hS (vinT (by rw [hk2]; omega)) dL_law_451 ?_
  refine lv_topi (fun a2_0 ea2_0 => ?_)
  have hkr : ∀ t ∈ kr, t ∈ [26, 27] := by rcases hkk with ⟨h9_, -⟩ | ⟨h9_, -⟩ <;> rw [h9_] <;> decide
  have hks : ∀ t ∈ ks, t ∈ [26, 27] := by rcases hkk with ⟨-, h9_⟩ | ⟨-, h9_⟩ <;> rw [h9_] <;> decide
  refine lawVi (E := (eC l G k tC aX aV)) (b := h0) (As := [.int a1_0, .int a2_0]) (rest := []) F hK hN hOc hTc (c_X6_barter (eC l G k tC aX aV) (rdD (.inl (0, 400)) (.inl (0, 400)) (.inl (0, 4000)) (.inl (0, 1)) (.inr [26, 27])) (xB 400 T) (kb, kb) (x1, x1) (y1, y1) (x2, x2) (y2, y2) (x3, x3) (y3, y3) (x4, x4) (y4, y4) kr ks (fun f_ => f_ = Da1) (fun f_ => f_ = Da2) (fun f_ => f_ = Da3) (fun f_ => f_ = Da4) (fun f_ => f_ = Sa1) (fun f_ => f_ = Sa2) (fun f_ => f_ = Sa3) (fun f_ => f_ = Sa4) (fun f_ => f_ = Qa1) (fun f_ => f_ = Qa2) (fun f_ => f_ = Qa3) (fun f_ => f_ = Qa4) t h0 a1_0 a2_0 (List.mem_singleton.mpr hh0) (by omega) (by show 0 ≤ x1 ∧ x1 ≤ 12; omega) (by show 0 ≤ y1 ∧ y1 ≤ 14; omega) (by show 0 ≤ x2 ∧ x2 ≤ 12; omega) (by show 0 ≤ y2 ∧ y2 ≤ 14; omega) (by show 0 ≤ x3 ∧ x3 ≤ 12; omega) (by show 0 ≤ y3 ∧ y3 ≤ 14; omega) (by show 0 ≤ x4 ∧ x4 ≤ 12; omega) (by show 0 ≤ y4 ∧ y4 ≤ 14; omega) hkr hks (fun f_ h_ => ivX hDa1 h_) (fun f_ h_ => ivX hDa2 h_) (fun f_ h_ => ivX hDa3 h_) (fun f_ h_ => ivX hDa4 h_) (fun f_ h_ => ivX hSa1 h_) (fun f_ h_ => ivX hSa2 h_) (fun f_ h_ => ivX hSa3 h_) (fun f_ h_ => ivX hSa4 h_) (fun f_ h_ => ivX hQa1 h_) (fun f_ h_ => ivX hQa2 h_) (fun f_ h_ => ivX hQa3 h_) (fun f_ h_ => ivX hQa4 h_)) mv_X6_barter wd_33_1 ⟨Nat.le_of_ble_eq_true rfl, Nat.le_of_ble_eq_true rfl⟩ ⟨Nat.le_of_ble_eq_true rfl, Nat.le_of_ble_eq_true rfl⟩ hC hS (tRecv hK hC (by rw [show eT (eC l G k tC aX aV) h0 = 28 from hh0]; rfl) clX6) rfl hl.1 (Nat.le_of_ble_eq_true rfl) dL_law_452 (fun v0 H1 locs hq hk_ hS => ?_)
  obtain ⟨f0_0, hN_⟩ := hq
  have hM := keptM hdis hM hk_
  have hC : TH (eC l G k tC aX aV) (tbC (dayD (.inl (0, 18))) (dayD (.inl (0, 18))) (riverD (.inl (x1, x1)) (.inl (y1, y1)) (.inl (0, 4)) 31 33 35 39 43 47) (riverD (.inl (x2, x2)) (.inl (y2, y2)) (.inl (0, 4)) 32 34 36 40 44 48) (rcD (.inl (t, t)) (.inr kr) (.inr ks) (.inl (kb, kb))) (rdD (.inl (0, 400)) (.inl (0, 400)) (.inl (0, 4000)) (.inl (0, 1)) (.inr [26, 27])) (xB 400 T) A14F A14F A4F A4F A14F A14F (riverD (.inl (x3, x3)) (.inl (y3, y3)) (.inl (0, 4)) 3 8 3 41 45 49) (riverD (.inl (x4, x4)) (.inl (y4, y4)) (.inl (0, 4)) 3 8 3 42 46 50) (xD 12 Da1) (xD 12 Da2) (xD 12 Da3) (xD 12 Da4) (xD 12 Sa1) (xD 12 Sa2) (xD 12 Sa3) (xD 12 Sa4) (xD 48 Qa1) (xD 48 Qa2) (xD 48 Qa3) (xD 48 Qa4)) H1 := hN_
  refine lv_pop hx hb dL_law_455 rfl ?_
  refine lv_aload_n hx hb dL_law_456 rfl (lv_at hl 1 rfl) ?_
  refine lv_aload_n hx hb dL_law_457 rfl (lv_at hl 3 rfl) ?_
  refine lv_iload_n hx hb dL_law_458 rfl (lv_at hl 0 rfl) ?_
  refine lv_iconst (v := 1) hx hb dL_law_459 (by decide) ?_
  refine lv_iadd hx hb dL_law_460 ?_
  refine va_sld hx hb hX hbl hbA hS (vinT (by rw [hk1]; omega)) dL_law_461 ?_
  refine lv_topi (fun a1_1 ea1_1 => ?_)
  obtain rfl : a1_0 = a1_1 := ea1_0.trans ea1_1.symm
  refine lv_aload_n hx hb dL_law_462 rfl (lv_at hl 3 rfl) ?_
  refine lv_iload_n hx hb dL_law_463 rfl (lv_at hl 0 rfl) ?_
  refine lv_iconst (v := 2) hx hb dL_law_464 (by decide) ?_
  refine lv_iadd hx hb dL_law_465 ?_
  refine va_sld hx hb hX hbl hbA hS (vinT (by rw [hk2]; omega)) dL_law_466 ?_
  refine lv_topi (fun a2_1 ea2_1 => ?_)
  obtain rfl : a2_0 = a2_1 := ea2_0.trans ea2_1.symm
  refine lawVi (E := (eM l G k tM aX aV)) (b := g0) (As := [.int a1_0, .int a2_0]) (rest := []) F hK hN hOm hTm (c_X7_barter (eM l G k tM aX aV) (xD 1320 V0) (xD 660 A0) (xD 660 B1) m_second (xB 400 T) (xZ 2 K0) (0, 18) (((-2147483648), 2147483647)) (t, t) (((-2147483648), 2147483647)) (0, 4000) (((-2147483648), 2147483647)) (((-2147483648), 2147483647)) (0, 1) u X0 W0 Z g0 a1_0 a2_0 (List.mem_singleton.mpr hg0) (by omega) hX0 hW0 hmW0 hqX0) mv_X7_barter wd_33_6 ⟨Nat.le_of_ble_eq_true rfl, Nat.le_of_ble_eq_true rfl⟩ ⟨Nat.le_of_ble_eq_true rfl, Nat.le_of_ble_eq_true rfl⟩ hM hS (tRecv hK hM (by rw [show eT (eM l G k tM aX aV) g0 = 24 from hg0]; rfl) clX7) rfl hl.1 (Nat.le_of_ble_eq_true rfl) dL_law_467 (fun v1 H1 locs hq hk_ hS => ?_)
  obtain ⟨u2_1, hu2_1, Wb_1, hWb_1, X2_1, hX2_1, f1_0, hN_⟩ := hq
  have hC := keptC hdis hC hk_
  have hM : TH (eM l G k tM aX aV) (tbM (mD (.inl (t, t)) (.inl (-2147483648, 2147483647)) (.inl (-2147483648, 2147483647)) (.inl (u2_1, u2_1)) (.inl (0, 18)) (.inl (-2147483648, 2147483647)) (.inl (0, 4000)) (.inl (-2147483648, 2147483647)) (.inl (0, 1))) (xD 660 X2_1) (xD 6600 Wb_1) (xD 1320 V0) (xD 660 A0) (xD 660 B1) m_second (xB 400 T) (xZ 2 K0)) H1 := hN_
  refine lv_pop hx hb dL_law_470 rfl ?_
  refine lv_goto (tgt := 1529) hx hb dL_law_471 (by decide) ?_
  have hG_ : ((kr = [26] ∧ ks = [27]) ∨ (kr = [27] ∧ ks = [26])) ∧ (0 ≤ kb ∧ kb ≤ 3) ∧ (0 ≤ x1 ∧ x1 ≤ 12) ∧ (0 ≤ y1 ∧ y1 ≤ 14) ∧ (0 ≤ x2 ∧ x2 ≤ 12) ∧ (0 ≤ y2 ∧ y2 ≤ 14) ∧ (0 ≤ x3 ∧ x3 ≤ 12) ∧ (0 ≤ y3 ∧ y3 ≤ 14) ∧ (0 ≤ x4 ∧ x4 ≤ 12) ∧ (0 ≤ y4 ∧ y4 ≤ 14) ∧ ivP 12 (-2) 11 Da1 ∧ ivP 12 (-2147483648) 2147483647 Sa1 ∧ ivP 48 (-2147483648) 2147483647 Qa1 ∧ ivP 12 (-2) 11 Da2 ∧ ivP 12 (-2147483648) 2147483647 Sa2 ∧ ivP 48 (-2147483648) 2147483647 Qa2 ∧ ivP 12 (-2) 11 Da3 ∧ ivP 12 (-2147483648) 2147483647 Sa3 ∧ ivP 48 (-2147483648) 2147483647 Qa3 ∧ ivP 12 (-2) 11 Da4 ∧ ivP 12 (-2147483648) 2147483647 Sa4 ∧ ivP 48 (-2147483648) 2147483647 Qa4 := ⟨hkk, (by omega), (by omega), (by omega), (by omega), (by omega), (by omega), (by omega), (by omega), (by omega), hDa1, hSa1, hQa1, hDa2, hSa2, hQa2, hDa3, hSa3, hQa3, hDa4, hSa4, hQa4⟩
  exact hend t T (kr, ks, kb, x1, y1, x2, y2, x3, y3, x4, y4, Da1, Sa1, Qa1, Da2, Sa2, Qa2, Da3, Sa3, Qa3, Da4, Sa4, Qa4) _ _ ⟨(by omega), hT8⟩ hG_ hC ⟨X2_1, Wb_1, V0, A0, B1, K0, Z, Y0, Y1, u2_1, (by omega), hX2_1.1, hWb_1.1, hV0, hA0, hK0, hX2_1.2, hWb_1.2, hy0, hy1, hTie, hM⟩ hS
set_option maxHeartbeats 4000000 in
set_option maxRecDepth 100000 in
theorem law_c8 {pg_ : Program} {l : Launch} {ev_ : Env} {s : State} {mi_ : MethodId} {below_ : List Frame} {meth : Method} {cd_ : Code} {H : Heap} {locs : List Loc} {ls : Array Slot} {b L : Nat} {xs : Nat → Int32} {G : va_G} {k : Nat → ClassId} {tC tM aX aV : Nat → Nat} {h0 g0 : Nat} {i : Int32} {t : Int} {T : RwF} {g : Gs} (B0 : LB pg_ s mi_ meth cd_ b L xs l G k tC tM aX aV h0 g0) (hi : 0 ≤ i.toInt ∧ i.toInt + 6 ≤ L) (ht : (0 ≤ t ∧ t ≤ 400) ∧ ivP 400 (-128) 127 T) (hg : Gok g) (hC : Cs (eC l G k tC aX aV) t T g H) (hMs : Ms (eM l G k tM aX aV) t T g H) (hS : va_S (lawA s) s.heap H locs) (hl : lv_has ls 4 [(3, .int i), (2, .ref g0), (1, .ref h0), (0, .ref b)]) (hend : ∀ (t : Int) (T : RwF) (g : Gs) (H : Heap) (locs : List Loc), ((0 ≤ t ∧ t ≤ 400) ∧ ivP 400 (-128) 127 T) → Gok g → Cs (eC l G k tC aX aV) t T g H → Ms (eM l G k tM aX aV) t T g H → va_S (lawA s) s.heap H locs → W pg_ l ev_ room_1 s mi_ #[Value.ref b] below_ meth cd_ H locs 294 18964 (lw_Z below_ #[Value.ref b] s) (F0 mi_ 1529 ls [])) : W pg_ l ev_ room_1 s mi_ #[Value.ref b] below_ meth cd_ H locs 294 18964 (lw_Z below_ #[Value.ref b] s) (F0 mi_ 474 ls []) := by
  obtain ⟨F, hK, hN, hOc, hOm, hX, hbl, hL, hTc, hTm, hdis, hh0, hg0⟩ := id B0
  obtain ⟨hx, hb, hr, hml, hown, hlk, hw, -⟩ := id F
  have hbA : ¬ lawA s b := fun q => absurd q (by unfold lawA; omega)
  obtain ⟨kr, ks, kb, x1, y1, x2, y2, x3, y3, x4, y4, Da1, Sa1, Qa1, Da2, Sa2, Qa2, Da3, Sa3, Qa3, Da4, Sa4, Qa4⟩ := g
  obtain ⟨X0, W0, V0, A0, B1, K0, Z, Y0, Y1, u, hu, hX0, hW0, hV0, hA0, hK0, hqX0, hmW0, hy0, hy1, hTie0, hM⟩ := hMs
  obtain ⟨ht, hT8⟩ := ht
  have hg : ((kr = [26] ∧ ks = [27]) ∨ (kr = [27] ∧ ks = [26])) ∧ (0 ≤ kb ∧ kb ≤ 3) ∧ (0 ≤ x1 ∧ x1 ≤ 12) ∧ (0 ≤ y1 ∧ y1 ≤ 14) ∧ (0 ≤ x2 ∧ x2 ≤ 12) ∧ (0 ≤ y2 ∧ y2 ≤ 14) ∧ (0 ≤ x3 ∧ x3 ≤ 12) ∧ (0 ≤ y3 ∧ y3 ≤ 14) ∧ (0 ≤ x4 ∧ x4 ≤ 12) ∧ (0 ≤ y4 ∧ y4 ≤ 14) ∧ ivP 12 (-2) 11 Da1 ∧ ivP 12 (-2147483648) 2147483647 Sa1 ∧ ivP 48 (-2147483648) 2147483647 Qa1 ∧ ivP 12 (-2) 11 Da2 ∧ ivP 12 (-2147483648) 2147483647 Sa2 ∧ ivP 48 (-2147483648) 2147483647 Qa2 ∧ ivP 12 (-2) 11 Da3 ∧ ivP 12 (-2147483648) 2147483647 Sa3 ∧ ivP 48 (-2147483648) 2147483647 Qa3 ∧ ivP 12 (-2) 11 Da4 ∧ ivP 12 (-2147483648) 2147483647 Sa4 ∧ ivP 48 (-2147483648) 2147483647 Qa4 := hg
  obtain ⟨hkk, hkb, hx1, hy1_, hx2, hy2_, hx3, hy3_, hx4, hy4_, hDa1, hSa1, hQa1, hDa2, hSa2, hQa2, hDa3, hSa3, hQa3, hDa4, hSa4, hQa4⟩ := hg
  have hC : TH (eC l G k tC aX aV) (tbC (dayD (.inl (0, 18))) (dayD (.inl (0, 18))) (riverD (.inl (x1, x1)) (.inl (y1, y1)) (.inl (0, 4)) 31 33 35 39 43 47) (riverD (.inl (x2, x2)) (.inl (y2, y2)) (.inl (0, 4)) 32 34 36 40 44 48) (rcD (.inl (t, t)) (.inr kr) (.inr ks) (.inl (kb, kb))) (rdD (.inl (0, 400)) (.inl (0, 400)) (.inl (0, 4000)) (.inl (0, 1)) (.inr [26, 27])) (xB 400 T) A14F A14F A4F A4F A14F A14F (riverD (.inl (x3, x3)) (.inl (y3, y3)) (.inl (0, 4)) 3 8 3 41 45 49) (riverD (.inl (x4, x4)) (.inl (y4, y4)) (.inl (0, 4)) 3 8 3 42 46 50) (xD 12 Da1) (xD 12 Da2) (xD 12 Da3) (xD 12 Da4) (xD 12 Sa1) (xD 12 Sa2) (xD 12 Sa3) (xD 12 Sa4) (xD 48 Qa1) (xD 48 Qa2) (xD 48 Qa3) (xD 48 Qa4)) H := hC
  have hTie : (kr = [26] → rowT x1 Da1 Sa1 Qa1 Z) ∧ (kr = [27] → rowT x2 Da2 Sa2 Qa2 Z) ∧ gI K0 0 = kb % 2 ∧ gI K0 1 = kb / 2 ∧ (kb % 2 = 1 → rowT x3 Da3 Sa3 Qa3 Y0) ∧ (kb / 2 = 1 → rowT x4 Da4 Sa4 Qa4 Y1) := hTie0
  clear hTie0
  have hk1 : (i + 1).toInt = i.toInt + 1 := by
    have h1 := i_add (x := i) (y := 1) (by rw [show (1 : Int32).toInt = 1 by decide]; omega) (by rw [show (1 : Int32).toInt = 1 by decide]; omega)
    rw [show (1 : Int32).toInt = 1 by decide] at h1
    exact h1
  have hk2 : (i + 2).toInt = i.toInt + 2 := by
    have h1 := i_add (x := i) (y := 2) (by rw [show (2 : Int32).toInt = 2 by decide]; omega) (by rw [show (2 : Int32).toInt = 2 by decide]; omega)
    rw [show (2 : Int32).toInt = 2 by decide] at h1
    exact h1
  refine lv_aload_n hx hb dL_law_474 rfl (lv_at hl 2 rfl) ?_
  refine lv_aload_n hx hb dL_law_475 rfl (lv_at hl 3 rfl) ?_
  refine lv_iload_n hx hb dL_law_476 rfl (lv_at hl 0 rfl) ?_
  refine lv_iconst (v := 1) hx hb dL_law_477 (by decide) ?_
  refine lv_iadd hx hb dL_law_478 ?_
  refine va_sld hx hb hX hbl hbA hS (vinT (by rw [hk1]; omega)) dL_law_479 ?_
  refine lv_topi (fun a1_0 ea1_0 => ?_)
  refine lv_aload_n hx hb dL_law_480 rfl (lv_at hl 3 rfl) ?_
  refine lv_iload_n hx hb dL_law_481 rfl (lv_at hl 0 rfl) ?_
  refine lv_iconst (v := 2) hx hb dL_law_482 (by decide) ?_
  refine lv_iadd hx hb dL_law_483 ?_
  refine va_sld hx hb hX hbl hbA hS (vinT (by rw [hk2]; omega)) dL_law_484 ?_
  refine lv_topi (fun a2_0 ea2_0 => ?_)
  have hkr : ∀ t ∈ kr, t ∈ [26, 27] := by rcases hkk with ⟨h9_, -⟩ | ⟨h9_, -⟩ <;> rw [h9_] <;> decide
  have hks : ∀ t ∈ ks, t ∈ [26, 27] := by rcases hkk with ⟨-, h9_⟩ | ⟨-, h9_⟩ <;> rw [h9_] <;> decide
  refine lawVi (E := (eC l G k tC aX aV)) (b := h0) (As := [.int a1_0, .int a2_0]) (rest := []) F hK hN hOc hTc (c_X6_trade (eC l G k tC aX aV) (rdD (.inl (0, 400)) (.inl (0, 400)) (.inl (0, 4000)) (.inl (0, 1)) (.inr [26, 27])) (xB 400 T) (kb, kb) (x1, x1) (y1, y1) (x2, x2) (y2, y2) (x3, x3) (y3, y3) (x4, x4) (y4, y4) kr ks (fun f_ => f_ = Da1) (fun f_ => f_ = Da2) (fun f_ => f_ = Da3) (fun f_ => f_ = Da4) (fun f_ => f_ = Sa1) (fun f_ => f_ = Sa2) (fun f_ => f_ = Sa3) (fun f_ => f_ = Sa4) (fun f_ => f_ = Qa1) (fun f_ => f_ = Qa2) (fun f_ => f_ = Qa3) (fun f_ => f_ = Qa4) t h0 a1_0 a2_0 (List.mem_singleton.mpr hh0) (by omega) (by show 0 ≤ x1 ∧ x1 ≤ 12; omega) (by show 0 ≤ y1 ∧ y1 ≤ 14; omega) (by show 0 ≤ x2 ∧ x2 ≤ 12; omega) (by show 0 ≤ y2 ∧ y2 ≤ 14; omega) (by show 0 ≤ x3 ∧ x3 ≤ 12; omega) (by show 0 ≤ y3 ∧ y3 ≤ 14; omega) (by show 0 ≤ x4 ∧ x4 ≤ 12; omega) (by show 0 ≤ y4 ∧ y4 ≤ 14; omega) hkr hks (fun f_ h_ => ivX hDa1 h_) (fun f_ h_ => ivX hDa2 h_) (fun f_ h_ => ivX hDa3 h_) (fun f_ h_ => ivX hDa4 h_) (fun f_ h_ => ivX hSa1 h_) (fun f_ h_ => ivX hSa2 h_) (fun f_ h_ => ivX hSa3 h_) (fun f_ h_ => ivX hSa4 h_) (fun f_ h_ => ivX hQa1 h_) (fun f_ h_ => ivX hQa2 h_) (fun f_ h_ => ivX hQa3 h_) (fun f_ h_ => ivX hQa4 h_)) mv_X6_trade wd_33_10 ⟨Nat.le_of_ble_eq_true rfl, Nat.le_of_ble_eq_true rfl⟩ ⟨Nat.le_of_ble_eq_true rfl, Nat.le_of_ble_eq_true rfl⟩ hC hS (tRecv hK hC (by rw [show eT (eC l G k tC aX aV) h0 = 28 from hh0]; rfl) clX6) rfl hl.1 (Nat.le_of_ble_eq_true rfl) dL_law_485 (fun v0 H1 locs hq hk_ hS => ?_)
  obtain ⟨f0_0, hN_⟩ := hq
  have hM := keptM hdis hM hk_
  have hC : TH (eC l G k tC aX aV) (tbC (dayD (.inl (0, 18))) (dayD (.inl (0, 18))) (riverD (.inl (x1, x1)) (.inl (y1, y1)) (.inl (0, 4)) 31 33 35 39 43 47) (riverD (.inl (x2, x2)) (.inl (y2, y2)) (.inl (0, 4)) 32 34 36 40 44 48) (rcD (.inl (t, t)) (.inr kr) (.inr ks) (.inl (kb, kb))) (rdD (.inl (0, 400)) (.inl (0, 400)) (.inl (0, 4000)) (.inl (0, 1)) (.inr [26, 27])) (xB 400 T) A14F A14F A4F A4F A14F A14F (riverD (.inl (x3, x3)) (.inl (y3, y3)) (.inl (0, 4)) 3 8 3 41 45 49) (riverD (.inl (x4, x4)) (.inl (y4, y4)) (.inl (0, 4)) 3 8 3 42 46 50) (xD 12 Da1) (xD 12 Da2) (xD 12 Da3) (xD 12 Da4) (xD 12 Sa1) (xD 12 Sa2) (xD 12 Sa3) (xD 12 Sa4) (xD 48 Qa1) (xD 48 Qa2) (xD 48 Qa3) (xD 48 Qa4)) H1 := hN_
  refine lv_pop hx hb dL_law_488 rfl ?_
  refine lv_aload_n hx hb dL_law_489 rfl (lv_at hl 1 rfl) ?_
  refine lv_aload_n hx hb dL_law_490 rfl (lv_at hl 3 rfl) ?_
  refine lv_iload_n hx hb dL_law_491 rfl (lv_at hl 0 rfl) ?_
  refine lv_iconst (v := 1) hx hb dL_law_492 (by decide) ?_
  refine lv_iadd hx hb dL_law_493 ?_
  refine va_sld hx hb hX hbl hbA hS (vinT (by rw [hk1]; omega)) dL_law_494 ?_
  refine lv_topi (fun a1_1 ea1_1 => ?_)
  obtain rfl : a1_0 = a1_1 := ea1_0.trans ea1_1.symm
  refine lv_aload_n hx hb dL_law_495 rfl (lv_at hl 3 rfl) ?_
  refine lv_iload_n hx hb dL_law_496 rfl (lv_at hl 0 rfl) ?_
  refine lv_iconst (v := 2) hx hb dL_law_497 (by decide) ?_
  refine lv_iadd hx hb dL_law_498 ?_
  refine va_sld hx hb hX hbl hbA hS (vinT (by rw [hk2]; omega)) dL_law_499 ?_
  refine lv_topi (fun a2_1 ea2_1 => ?_)
  obtain rfl : a2_0 = a2_1 := ea2_0.trans ea2_1.symm
  refine lawVi (E := (eM l G k tM aX aV)) (b := g0) (As := [.int a1_0, .int a2_0]) (rest := []) F hK hN hOm hTm (c_X7_trade (eM l G k tM aX aV) (xD 1320 V0) (xD 660 A0) (xD 660 B1) m_second (xB 400 T) (xZ 2 K0) (0, 18) (((-2147483648), 2147483647)) (t, t) (((-2147483648), 2147483647)) (0, 4000) (((-2147483648), 2147483647)) (((-2147483648), 2147483647)) (0, 1) u X0 W0 Z g0 a1_0 a2_0 (List.mem_singleton.mpr hg0) (by omega) hX0 hW0 hmW0 hqX0) mv_X7_trade wd_33_22 ⟨Nat.le_of_ble_eq_true rfl, Nat.le_of_ble_eq_true rfl⟩ ⟨Nat.le_of_ble_eq_true rfl, Nat.le_of_ble_eq_true rfl⟩ hM hS (tRecv hK hM (by rw [show eT (eM l G k tM aX aV) g0 = 24 from hg0]; rfl) clX7) rfl hl.1 (Nat.le_of_ble_eq_true rfl) dL_law_500 (fun v1 H1 locs hq hk_ hS => ?_)
  obtain ⟨u2_1, hu2_1, Wb_1, hWb_1, X2_1, hX2_1, f1_0, hN_⟩ := hq
  have hC := keptC hdis hC hk_
  have hM : TH (eM l G k tM aX aV) (tbM (mD (.inl (t, t)) (.inl (-2147483648, 2147483647)) (.inl (-2147483648, 2147483647)) (.inl (u2_1, u2_1)) (.inl (0, 18)) (.inl (-2147483648, 2147483647)) (.inl (0, 4000)) (.inl (-2147483648, 2147483647)) (.inl (0, 1))) (xD 660 X2_1) (xD 6600 Wb_1) (xD 1320 V0) (xD 660 A0) (xD 660 B1) m_second (xB 400 T) (xZ 2 K0)) H1 := hN_
  refine lv_pop hx hb dL_law_503 rfl ?_
  refine lv_goto (tgt := 1529) hx hb dL_law_504 (by decide) ?_
  have hG_ : ((kr = [26] ∧ ks = [27]) ∨ (kr = [27] ∧ ks = [26])) ∧ (0 ≤ kb ∧ kb ≤ 3) ∧ (0 ≤ x1 ∧ x1 ≤ 12) ∧ (0 ≤ y1 ∧ y1 ≤ 14) ∧ (0 ≤ x2 ∧ x2 ≤ 12) ∧ (0 ≤ y2 ∧ y2 ≤ 14) ∧ (0 ≤ x3 ∧ x3 ≤ 12) ∧ (0 ≤ y3 ∧ y3 ≤ 14) ∧ (0 ≤ x4 ∧ x4 ≤ 12) ∧ (0 ≤ y4 ∧ y4 ≤ 14) ∧ ivP 12 (-2) 11 Da1 ∧ ivP 12 (-2147483648) 2147483647 Sa1 ∧ ivP 48 (-2147483648) 2147483647 Qa1 ∧ ivP 12 (-2) 11 Da2 ∧ ivP 12 (-2147483648) 2147483647 Sa2 ∧ ivP 48 (-2147483648) 2147483647 Qa2 ∧ ivP 12 (-2) 11 Da3 ∧ ivP 12 (-2147483648) 2147483647 Sa3 ∧ ivP 48 (-2147483648) 2147483647 Qa3 ∧ ivP 12 (-2) 11 Da4 ∧ ivP 12 (-2147483648) 2147483647 Sa4 ∧ ivP 48 (-2147483648) 2147483647 Qa4 := ⟨hkk, (by omega), (by omega), (by omega), (by omega), (by omega), (by omega), (by omega), (by omega), (by omega), hDa1, hSa1, hQa1, hDa2, hSa2, hQa2, hDa3, hSa3, hQa3, hDa4, hSa4, hQa4⟩
  exact hend t T (kr, ks, kb, x1, y1, x2, y2, x3, y3, x4, y4, Da1, Sa1, Qa1, Da2, Sa2, Qa2, Da3, Sa3, Qa3, Da4, Sa4, Qa4) _ _ ⟨(by omega), hT8⟩ hG_ hC ⟨X2_1, Wb_1, V0, A0, B1, K0, Z, Y0, Y1, u2_1, (by omega), hX2_1.1, hWb_1.1, hV0, hA0, hK0, hX2_1.2, hWb_1.2, hy0, hy1, hTie, hM⟩ hS
set_option maxHeartbeats 4000000 in
set_option maxRecDepth 100000 in
theorem law_c9 {pg_ : Program} {l : Launch} {ev_ : Env} {s : State} {mi_ : MethodId} {below_ : List Frame} {meth : Method} {cd_ : Code} {H : Heap} {locs : List Loc} {ls : Array Slot} {b L : Nat} {xs : Nat → Int32} {G : va_G} {k : Nat → ClassId} {tC tM aX aV : Nat → Nat} {h0 g0 : Nat} {i : Int32} {t : Int} {T : RwF} {g : Gs} (B0 : LB pg_ s mi_ meth cd_ b L xs l G k tC tM aX aV h0 g0) (hi : 0 ≤ i.toInt ∧ i.toInt + 6 ≤ L) (ht : (0 ≤ t ∧ t ≤ 400) ∧ ivP 400 (-128) 127 T) (hg : Gok g) (hC : Cs (eC l G k tC aX aV) t T g H) (hMs : Ms (eM l G k tM aX aV) t T g H) (hS : va_S (lawA s) s.heap H locs) (hl : lv_has ls 4 [(3, .int i), (2, .ref g0), (1, .ref h0), (0, .ref b)]) (hend : ∀ (t : Int) (T : RwF) (g : Gs) (H : Heap) (locs : List Loc), ((0 ≤ t ∧ t ≤ 400) ∧ ivP 400 (-128) 127 T) → Gok g → Cs (eC l G k tC aX aV) t T g H → Ms (eM l G k tM aX aV) t T g H → va_S (lawA s) s.heap H locs → W pg_ l ev_ room_1 s mi_ #[Value.ref b] below_ meth cd_ H locs 294 18964 (lw_Z below_ #[Value.ref b] s) (F0 mi_ 1529 ls [])) : W pg_ l ev_ room_1 s mi_ #[Value.ref b] below_ meth cd_ H locs 294 18964 (lw_Z below_ #[Value.ref b] s) (F0 mi_ 507 ls []) := by
  obtain ⟨F, hK, hN, hOc, hOm, hX, hbl, hL, hTc, hTm, hdis, hh0, hg0⟩ := id B0
  obtain ⟨hx, hb, hr, hml, hown, hlk, hw, -⟩ := id F
  have hbA : ¬ lawA s b := fun q => absurd q (by unfold lawA; omega)
  obtain ⟨kr, ks, kb, x1, y1, x2, y2, x3, y3, x4, y4, Da1, Sa1, Qa1, Da2, Sa2, Qa2, Da3, Sa3, Qa3, Da4, Sa4, Qa4⟩ := g
  obtain ⟨X0, W0, V0, A0, B1, K0, Z, Y0, Y1, u, hu, hX0, hW0, hV0, hA0, hK0, hqX0, hmW0, hy0, hy1, hTie0, hM⟩ := hMs
  obtain ⟨ht, hT8⟩ := ht
  have hg : ((kr = [26] ∧ ks = [27]) ∨ (kr = [27] ∧ ks = [26])) ∧ (0 ≤ kb ∧ kb ≤ 3) ∧ (0 ≤ x1 ∧ x1 ≤ 12) ∧ (0 ≤ y1 ∧ y1 ≤ 14) ∧ (0 ≤ x2 ∧ x2 ≤ 12) ∧ (0 ≤ y2 ∧ y2 ≤ 14) ∧ (0 ≤ x3 ∧ x3 ≤ 12) ∧ (0 ≤ y3 ∧ y3 ≤ 14) ∧ (0 ≤ x4 ∧ x4 ≤ 12) ∧ (0 ≤ y4 ∧ y4 ≤ 14) ∧ ivP 12 (-2) 11 Da1 ∧ ivP 12 (-2147483648) 2147483647 Sa1 ∧ ivP 48 (-2147483648) 2147483647 Qa1 ∧ ivP 12 (-2) 11 Da2 ∧ ivP 12 (-2147483648) 2147483647 Sa2 ∧ ivP 48 (-2147483648) 2147483647 Qa2 ∧ ivP 12 (-2) 11 Da3 ∧ ivP 12 (-2147483648) 2147483647 Sa3 ∧ ivP 48 (-2147483648) 2147483647 Qa3 ∧ ivP 12 (-2) 11 Da4 ∧ ivP 12 (-2147483648) 2147483647 Sa4 ∧ ivP 48 (-2147483648) 2147483647 Qa4 := hg
  obtain ⟨hkk, hkb, hx1, hy1_, hx2, hy2_, hx3, hy3_, hx4, hy4_, hDa1, hSa1, hQa1, hDa2, hSa2, hQa2, hDa3, hSa3, hQa3, hDa4, hSa4, hQa4⟩ := hg
  have hC : TH (eC l G k tC aX aV) (tbC (dayD (.inl (0, 18))) (dayD (.inl (0, 18))) (riverD (.inl (x1, x1)) (.inl (y1, y1)) (.inl (0, 4)) 31 33 35 39 43 47) (riverD (.inl (x2, x2)) (.inl (y2, y2)) (.inl (0, 4)) 32 34 36 40 44 48) (rcD (.inl (t, t)) (.inr kr) (.inr ks) (.inl (kb, kb))) (rdD (.inl (0, 400)) (.inl (0, 400)) (.inl (0, 4000)) (.inl (0, 1)) (.inr [26, 27])) (xB 400 T) A14F A14F A4F A4F A14F A14F (riverD (.inl (x3, x3)) (.inl (y3, y3)) (.inl (0, 4)) 3 8 3 41 45 49) (riverD (.inl (x4, x4)) (.inl (y4, y4)) (.inl (0, 4)) 3 8 3 42 46 50) (xD 12 Da1) (xD 12 Da2) (xD 12 Da3) (xD 12 Da4) (xD 12 Sa1) (xD 12 Sa2) (xD 12 Sa3) (xD 12 Sa4) (xD 48 Qa1) (xD 48 Qa2) (xD 48 Qa3) (xD 48 Qa4)) H := hC
  have hTie : (kr = [26] → rowT x1 Da1 Sa1 Qa1 Z) ∧ (kr = [27] → rowT x2 Da2 Sa2 Qa2 Z) ∧ gI K0 0 = kb % 2 ∧ gI K0 1 = kb / 2 ∧ (kb % 2 = 1 → rowT x3 Da3 Sa3 Qa3 Y0) ∧ (kb / 2 = 1 → rowT x4 Da4 Sa4 Qa4 Y1) := hTie0
  clear hTie0
  have hk1 : (i + 1).toInt = i.toInt + 1 := by
    have h1 := i_add (x := i) (y := 1) (by rw [show (1 : Int32).toInt = 1 by decide]; omega) (by rw [show (1 : Int32).toInt = 1 by decide]; omega)
    rw [show (1 : Int32).toInt = 1 by decide] at h1
    exact h1
  have hk2 : (i + 2).toInt = i.toInt + 2 := by
    have h1 := i_add (x := i) (y := 2) (by rw [show (2 : Int32).toInt = 2 by decide]; omega) (by rw [show (2 : Int32).toInt = 2 by decide]; omega)
    rw [show (2 : Int32).toInt = 2 by decide] at h1
    exact h1
  refine lv_aload_n hx hb dL_law_507 rfl (lv_at hl 2 rfl) ?_
  refine lv_aload_n hx hb dL_law_508 rfl (lv_at hl 3 rfl) ?_
  refine lv_iload_n hx hb dL_law_509 rfl (lv_at hl 0 rfl) ?_
  refine lv_iconst (v := 1) hx hb dL_law_510 (by decide) ?_
  refine lv_iadd hx hb dL_law_511 ?_
  refine va_sld hx hb hX hbl hbA hS (vinT (by rw [hk1]; omega)) dL_law_512 ?_
  refine lv_topi (fun a1_0 ea1_0 => ?_)
  refine lv_aload_n hx hb dL_law_513 rfl (lv_at hl 3 rfl) ?_
  refine lv_iload_n hx hb dL_law_514 rfl (lv_at hl 0 rfl) ?_
  refine lv_iconst (v := 2) hx hb dL_law_515 (by decide) ?_
  refine lv_iadd hx hb dL_law_516 ?_
  refine va_sld hx hb hX hbl hbA hS (vinT (by rw [hk2]; omega)) dL_law_517 ?_
  refine lv_topi (fun a2_0 ea2_0 => ?_)
  have hkr : ∀ t ∈ kr, t ∈ [26, 27] := by rcases hkk with ⟨h9_, -⟩ | ⟨h9_, -⟩ <;> rw [h9_] <;> decide
  have hks : ∀ t ∈ ks, t ∈ [26, 27] := by rcases hkk with ⟨-, h9_⟩ | ⟨-, h9_⟩ <;> rw [h9_] <;> decide
  refine lawVi (E := (eC l G k tC aX aV)) (b := h0) (As := [.int a1_0, .int a2_0]) (rest := []) F hK hN hOc hTc (c_X6_move (eC l G k tC aX aV) (rdD (.inl (0, 400)) (.inl (0, 400)) (.inl (0, 4000)) (.inl (0, 1)) (.inr [26, 27])) (xB 400 T) (kb, kb) (x1, x1) (y1, y1) (x2, x2) (y2, y2) (x3, x3) (y3, y3) (x4, x4) (y4, y4) kr ks (fun f_ => f_ = Da1) (fun f_ => f_ = Da2) (fun f_ => f_ = Da3) (fun f_ => f_ = Da4) (fun f_ => f_ = Sa1) (fun f_ => f_ = Sa2) (fun f_ => f_ = Sa3) (fun f_ => f_ = Sa4) (fun f_ => f_ = Qa1) (fun f_ => f_ = Qa2) (fun f_ => f_ = Qa3) (fun f_ => f_ = Qa4) t h0 a1_0 a2_0 (List.mem_singleton.mpr hh0) (by omega) (by show 0 ≤ x1 ∧ x1 ≤ 12; omega) (by show 0 ≤ y1 ∧ y1 ≤ 14; omega) (by show 0 ≤ x2 ∧ x2 ≤ 12; omega) (by show 0 ≤ y2 ∧ y2 ≤ 14; omega) (by show 0 ≤ x3 ∧ x3 ≤ 12; omega) (by show 0 ≤ y3 ∧ y3 ≤ 14; omega) (by show 0 ≤ x4 ∧ x4 ≤ 12; omega) (by show 0 ≤ y4 ∧ y4 ≤ 14; omega) hkr hks (fun f_ h_ => ivX hDa1 h_) (fun f_ h_ => ivX hDa2 h_) (fun f_ h_ => ivX hDa3 h_) (fun f_ h_ => ivX hDa4 h_) (fun f_ h_ => ivX hSa1 h_) (fun f_ h_ => ivX hSa2 h_) (fun f_ h_ => ivX hSa3 h_) (fun f_ h_ => ivX hSa4 h_) (fun f_ h_ => ivX hQa1 h_) (fun f_ h_ => ivX hQa2 h_) (fun f_ h_ => ivX hQa3 h_) (fun f_ h_ => ivX hQa4 h_)) mv_X6_move wd_34_2 ⟨Nat.le_of_ble_eq_true rfl, Nat.le_of_ble_eq_true rfl⟩ ⟨Nat.le_of_ble_eq_true rfl, Nat.le_of_ble_eq_true rfl⟩ hC hS (tRecv hK hC (by rw [show eT (eC l G k tC aX aV) h0 = 28 from hh0]; rfl) clX6) rfl hl.1 (Nat.le_of_ble_eq_true rfl) dL_law_518 (fun v0 H1 locs hq hk_ hS => ?_)
  obtain ⟨f0_0, hN_⟩ := hq
  have hM := keptM hdis hM hk_
  have hC : TH (eC l G k tC aX aV) (tbC (dayD (.inl (0, 18))) (dayD (.inl (0, 18))) (riverD (.inl (x1, x1)) (.inl (y1, y1)) (.inl (0, 4)) 31 33 35 39 43 47) (riverD (.inl (x2, x2)) (.inl (y2, y2)) (.inl (0, 4)) 32 34 36 40 44 48) (rcD (.inl (t, t)) (.inr kr) (.inr ks) (.inl (kb, kb))) (rdD (.inl (0, 400)) (.inl (0, 400)) (.inl (0, 4000)) (.inl (0, 1)) (.inr [26, 27])) (xB 400 T) A14F A14F A4F A4F A14F A14F (riverD (.inl (x3, x3)) (.inl (y3, y3)) (.inl (0, 4)) 3 8 3 41 45 49) (riverD (.inl (x4, x4)) (.inl (y4, y4)) (.inl (0, 4)) 3 8 3 42 46 50) (xD 12 Da1) (xD 12 Da2) (xD 12 Da3) (xD 12 Da4) (xD 12 Sa1) (xD 12 Sa2) (xD 12 Sa3) (xD 12 Sa4) (xD 48 Qa1) (xD 48 Qa2) (xD 48 Qa3) (xD 48 Qa4)) H1 := hN_
  refine lv_pop hx hb dL_law_521 rfl ?_
  refine lv_aload_n hx hb dL_law_522 rfl (lv_at hl 1 rfl) ?_
  refine lv_aload_n hx hb dL_law_523 rfl (lv_at hl 3 rfl) ?_
  refine lv_iload_n hx hb dL_law_524 rfl (lv_at hl 0 rfl) ?_
  refine lv_iconst (v := 1) hx hb dL_law_525 (by decide) ?_
  refine lv_iadd hx hb dL_law_526 ?_
  refine va_sld hx hb hX hbl hbA hS (vinT (by rw [hk1]; omega)) dL_law_527 ?_
  refine lv_topi (fun a1_1 ea1_1 => ?_)
  obtain rfl : a1_0 = a1_1 := ea1_0.trans ea1_1.symm
  refine lv_aload_n hx hb dL_law_528 rfl (lv_at hl 3 rfl) ?_
  refine lv_iload_n hx hb dL_law_529 rfl (lv_at hl 0 rfl) ?_
  refine lv_iconst (v := 2) hx hb dL_law_530 (by decide) ?_
  refine lv_iadd hx hb dL_law_531 ?_
  refine va_sld hx hb hX hbl hbA hS (vinT (by rw [hk2]; omega)) dL_law_532 ?_
  refine lv_topi (fun a2_1 ea2_1 => ?_)
  obtain rfl : a2_0 = a2_1 := ea2_0.trans ea2_1.symm
  refine lawVi (E := (eM l G k tM aX aV)) (b := g0) (As := [.int a1_0, .int a2_0]) (rest := []) F hK hN hOm hTm (c_X7_move (eM l G k tM aX aV) (xD 1320 V0) (xD 660 B1) (xB 400 T) (xZ 2 K0) (((-2147483648), 2147483647)) (t, t) (((-2147483648), 2147483647)) (0, 4000) (((-2147483648), 2147483647)) (((-2147483648), 2147483647)) (0, 1) u X0 W0 A0 Z g0 a1_0 a2_0 (List.mem_singleton.mpr hg0) (by omega) hX0 hW0 hA0 hmW0 hqX0) mv_X7_move wd_37_4 ⟨Nat.le_of_ble_eq_true rfl, Nat.le_of_ble_eq_true rfl⟩ ⟨Nat.le_of_ble_eq_true rfl, Nat.le_of_ble_eq_true rfl⟩ hM hS (tRecv hK hM (by rw [show eT (eM l G k tM aX aV) g0 = 24 from hg0]; rfl) clX7) rfl hl.1 (Nat.le_of_ble_eq_true rfl) dL_law_533 (fun v1 H1 locs hq hk_ hS => ?_)
  obtain ⟨u2_1, hu2_1, Wb_1, hWb_1, X2_1, hX2_1, A2_1, hA2_1, f1_0, hN_⟩ := hq
  have hC := keptC hdis hC hk_
  have hM : TH (eM l G k tM aX aV) (tbM (mD (.inl (t, t)) (.inl (-2147483648, 2147483647)) (.inl (-2147483648, 2147483647)) (.inl (u2_1, u2_1)) (.inl (0, 18)) (.inl (-2147483648, 2147483647)) (.inl (0, 4000)) (.inl (-2147483648, 2147483647)) (.inl (0, 1))) (xD 660 X2_1) (xD 6600 Wb_1) (xD 1320 V0) (xD 660 A2_1) (xD 660 B1) m_second (xB 400 T) (xZ 2 K0)) H1 := hN_
  refine lv_pop hx hb dL_law_536 rfl ?_
  refine lv_goto (tgt := 1529) hx hb dL_law_537 (by decide) ?_
  have hG_ : ((kr = [26] ∧ ks = [27]) ∨ (kr = [27] ∧ ks = [26])) ∧ (0 ≤ kb ∧ kb ≤ 3) ∧ (0 ≤ x1 ∧ x1 ≤ 12) ∧ (0 ≤ y1 ∧ y1 ≤ 14) ∧ (0 ≤ x2 ∧ x2 ≤ 12) ∧ (0 ≤ y2 ∧ y2 ≤ 14) ∧ (0 ≤ x3 ∧ x3 ≤ 12) ∧ (0 ≤ y3 ∧ y3 ≤ 14) ∧ (0 ≤ x4 ∧ x4 ≤ 12) ∧ (0 ≤ y4 ∧ y4 ≤ 14) ∧ ivP 12 (-2) 11 Da1 ∧ ivP 12 (-2147483648) 2147483647 Sa1 ∧ ivP 48 (-2147483648) 2147483647 Qa1 ∧ ivP 12 (-2) 11 Da2 ∧ ivP 12 (-2147483648) 2147483647 Sa2 ∧ ivP 48 (-2147483648) 2147483647 Qa2 ∧ ivP 12 (-2) 11 Da3 ∧ ivP 12 (-2147483648) 2147483647 Sa3 ∧ ivP 48 (-2147483648) 2147483647 Qa3 ∧ ivP 12 (-2) 11 Da4 ∧ ivP 12 (-2147483648) 2147483647 Sa4 ∧ ivP 48 (-2147483648) 2147483647 Qa4 := ⟨hkk, (by omega), (by omega), (by omega), (by omega), (by omega), (by omega), (by omega), (by omega), (by omega), hDa1, hSa1, hQa1, hDa2, hSa2, hQa2, hDa3, hSa3, hQa3, hDa4, hSa4, hQa4⟩
  exact hend t T (kr, ks, kb, x1, y1, x2, y2, x3, y3, x4, y4, Da1, Sa1, Qa1, Da2, Sa2, Qa2, Da3, Sa3, Qa3, Da4, Sa4, Qa4) _ _ ⟨(by omega), hT8⟩ hG_ hC ⟨X2_1, Wb_1, V0, A2_1, B1, K0, Z, Y0, Y1, u2_1, (by omega), hX2_1.1, hWb_1.1, hV0, hA2_1, hK0, hX2_1.2, hWb_1.2, hy0, hy1, hTie, hM⟩ hS
set_option maxHeartbeats 4000000 in
set_option maxRecDepth 100000 in
theorem law_c10 {pg_ : Program} {l : Launch} {ev_ : Env} {s : State} {mi_ : MethodId} {below_ : List Frame} {meth : Method} {cd_ : Code} {H : Heap} {locs : List Loc} {ls : Array Slot} {b L : Nat} {xs : Nat → Int32} {G : va_G} {k : Nat → ClassId} {tC tM aX aV : Nat → Nat} {h0 g0 : Nat} {i : Int32} {t : Int} {T : RwF} {g : Gs} (B0 : LB pg_ s mi_ meth cd_ b L xs l G k tC tM aX aV h0 g0) (hi : 0 ≤ i.toInt ∧ i.toInt + 6 ≤ L) (ht : (0 ≤ t ∧ t ≤ 400) ∧ ivP 400 (-128) 127 T) (hg : Gok g) (hC : Cs (eC l G k tC aX aV) t T g H) (hMs : Ms (eM l G k tM aX aV) t T g H) (hS : va_S (lawA s) s.heap H locs) (hl : lv_has ls 4 [(3, .int i), (2, .ref g0), (1, .ref h0), (0, .ref b)]) (hend : ∀ (t : Int) (T : RwF) (g : Gs) (H : Heap) (locs : List Loc), ((0 ≤ t ∧ t ≤ 400) ∧ ivP 400 (-128) 127 T) → Gok g → Cs (eC l G k tC aX aV) t T g H → Ms (eM l G k tM aX aV) t T g H → va_S (lawA s) s.heap H locs → W pg_ l ev_ room_1 s mi_ #[Value.ref b] below_ meth cd_ H locs 294 18964 (lw_Z below_ #[Value.ref b] s) (F0 mi_ 1529 ls [])) : W pg_ l ev_ room_1 s mi_ #[Value.ref b] below_ meth cd_ H locs 294 18964 (lw_Z below_ #[Value.ref b] s) (F0 mi_ 540 ls []) := by
  obtain ⟨F, hK, hN, hOc, hOm, hX, hbl, hL, hTc, hTm, hdis, hh0, hg0⟩ := id B0
  obtain ⟨hx, hb, hr, hml, hown, hlk, hw, -⟩ := id F
  have hbA : ¬ lawA s b := fun q => absurd q (by unfold lawA; omega)
  obtain ⟨kr, ks, kb, x1, y1, x2, y2, x3, y3, x4, y4, Da1, Sa1, Qa1, Da2, Sa2, Qa2, Da3, Sa3, Qa3, Da4, Sa4, Qa4⟩ := g
  obtain ⟨X0, W0, V0, A0, B1, K0, Z, Y0, Y1, u, hu, hX0, hW0, hV0, hA0, hK0, hqX0, hmW0, hy0, hy1, hTie0, hM⟩ := hMs
  obtain ⟨ht, hT8⟩ := ht
  have hg : ((kr = [26] ∧ ks = [27]) ∨ (kr = [27] ∧ ks = [26])) ∧ (0 ≤ kb ∧ kb ≤ 3) ∧ (0 ≤ x1 ∧ x1 ≤ 12) ∧ (0 ≤ y1 ∧ y1 ≤ 14) ∧ (0 ≤ x2 ∧ x2 ≤ 12) ∧ (0 ≤ y2 ∧ y2 ≤ 14) ∧ (0 ≤ x3 ∧ x3 ≤ 12) ∧ (0 ≤ y3 ∧ y3 ≤ 14) ∧ (0 ≤ x4 ∧ x4 ≤ 12) ∧ (0 ≤ y4 ∧ y4 ≤ 14) ∧ ivP 12 (-2) 11 Da1 ∧ ivP 12 (-2147483648) 2147483647 Sa1 ∧ ivP 48 (-2147483648) 2147483647 Qa1 ∧ ivP 12 (-2) 11 Da2 ∧ ivP 12 (-2147483648) 2147483647 Sa2 ∧ ivP 48 (-2147483648) 2147483647 Qa2 ∧ ivP 12 (-2) 11 Da3 ∧ ivP 12 (-2147483648) 2147483647 Sa3 ∧ ivP 48 (-2147483648) 2147483647 Qa3 ∧ ivP 12 (-2) 11 Da4 ∧ ivP 12 (-2147483648) 2147483647 Sa4 ∧ ivP 48 (-2147483648) 2147483647 Qa4 := hg
  obtain ⟨hkk, hkb, hx1, hy1_, hx2, hy2_, hx3, hy3_, hx4, hy4_, hDa1, hSa1, hQa1, hDa2, hSa2, hQa2, hDa3, hSa3, hQa3, hDa4, hSa4, hQa4⟩ := hg
  have hC : TH (eC l G k tC aX aV) (tbC (dayD (.inl (0, 18))) (dayD (.inl (0, 18))) (riverD (.inl (x1, x1)) (.inl (y1, y1)) (.inl (0, 4)) 31 33 35 39 43 47) (riverD (.inl (x2, x2)) (.inl (y2, y2)) (.inl (0, 4)) 32 34 36 40 44 48) (rcD (.inl (t, t)) (.inr kr) (.inr ks) (.inl (kb, kb))) (rdD (.inl (0, 400)) (.inl (0, 400)) (.inl (0, 4000)) (.inl (0, 1)) (.inr [26, 27])) (xB 400 T) A14F A14F A4F A4F A14F A14F (riverD (.inl (x3, x3)) (.inl (y3, y3)) (.inl (0, 4)) 3 8 3 41 45 49) (riverD (.inl (x4, x4)) (.inl (y4, y4)) (.inl (0, 4)) 3 8 3 42 46 50) (xD 12 Da1) (xD 12 Da2) (xD 12 Da3) (xD 12 Da4) (xD 12 Sa1) (xD 12 Sa2) (xD 12 Sa3) (xD 12 Sa4) (xD 48 Qa1) (xD 48 Qa2) (xD 48 Qa3) (xD 48 Qa4)) H := hC
  have hTie : (kr = [26] → rowT x1 Da1 Sa1 Qa1 Z) ∧ (kr = [27] → rowT x2 Da2 Sa2 Qa2 Z) ∧ gI K0 0 = kb % 2 ∧ gI K0 1 = kb / 2 ∧ (kb % 2 = 1 → rowT x3 Da3 Sa3 Qa3 Y0) ∧ (kb / 2 = 1 → rowT x4 Da4 Sa4 Qa4 Y1) := hTie0
  clear hTie0
  refine lv_aload_n hx hb dL_law_540 rfl (lv_at hl 2 rfl) ?_
  have hkr : ∀ t ∈ kr, t ∈ [26, 27] := by rcases hkk with ⟨h9_, -⟩ | ⟨h9_, -⟩ <;> rw [h9_] <;> decide
  have hks : ∀ t ∈ ks, t ∈ [26, 27] := by rcases hkk with ⟨-, h9_⟩ | ⟨-, h9_⟩ <;> rw [h9_] <;> decide
  refine lawVi (E := (eC l G k tC aX aV)) (b := h0) (As := []) (rest := []) F hK hN hOc hTc (c_X6_undo (eC l G k tC aX aV) (rdD (.inl (0, 400)) (.inl (0, 400)) (.inl (0, 4000)) (.inl (0, 1)) (.inr [26, 27])) (xB 400 T) (kb, kb) (x1, x1) (y1, y1) (x2, x2) (y2, y2) (x3, x3) (y3, y3) (x4, x4) (y4, y4) kr ks (fun f_ => f_ = Da1) (fun f_ => f_ = Da2) (fun f_ => f_ = Da3) (fun f_ => f_ = Da4) (fun f_ => f_ = Sa1) (fun f_ => f_ = Sa2) (fun f_ => f_ = Sa3) (fun f_ => f_ = Sa4) (fun f_ => f_ = Qa1) (fun f_ => f_ = Qa2) (fun f_ => f_ = Qa3) (fun f_ => f_ = Qa4) t h0 (List.mem_singleton.mpr hh0) (by omega) (by show 0 ≤ x1 ∧ x1 ≤ 12; omega) (by show 0 ≤ y1 ∧ y1 ≤ 14; omega) (by show 0 ≤ x2 ∧ x2 ≤ 12; omega) (by show 0 ≤ y2 ∧ y2 ≤ 14; omega) (by show 0 ≤ x3 ∧ x3 ≤ 12; omega) (by show 0 ≤ y3 ∧ y3 ≤ 14; omega) (by show 0 ≤ x4 ∧ x4 ≤ 12; omega) (by show 0 ≤ y4 ∧ y4 ≤ 14; omega) hkr hks (fun f_ h_ => ivX hDa1 h_) (fun f_ h_ => ivX hDa2 h_) (fun f_ h_ => ivX hDa3 h_) (fun f_ h_ => ivX hDa4 h_) (fun f_ h_ => ivX hSa1 h_) (fun f_ h_ => ivX hSa2 h_) (fun f_ h_ => ivX hSa3 h_) (fun f_ h_ => ivX hSa4 h_) (fun f_ h_ => ivX hQa1 h_) (fun f_ h_ => ivX hQa2 h_) (fun f_ h_ => ivX hQa3 h_) (fun f_ h_ => ivX hQa4 h_)) mv_X6_undo wd_38_12 ⟨Nat.le_of_ble_eq_true rfl, Nat.le_of_ble_eq_true rfl⟩ ⟨Nat.le_of_ble_eq_true rfl, Nat.le_of_ble_eq_true rfl⟩ hC hS (tRecv hK hC (by rw [show eT (eC l G k tC aX aV) h0 = 28 from hh0]; rfl) clX6) rfl hl.1 (Nat.le_of_ble_eq_true rfl) dL_law_541 (fun v0 H1 locs hq hk_ hS => ?_)
  obtain ⟨f0_0, hN_⟩ := hq
  have hM := keptM hdis hM hk_
  have hC : TH (eC l G k tC aX aV) (tbC (dayD (.inl (0, 18))) (dayD (.inl (0, 18))) (riverD (.inl (x1, x1)) (.inl (y1, y1)) (.inl (0, 4)) 31 33 35 39 43 47) (riverD (.inl (x2, x2)) (.inl (y2, y2)) (.inl (0, 4)) 32 34 36 40 44 48) (rcD (.inl (t, t)) (.inr kr) (.inr ks) (.inl (kb, kb))) (rdD (.inl (0, 400)) (.inl (0, 400)) (.inl (0, 4000)) (.inl (0, 1)) (.inr [26, 27])) (xB 400 T) A14F A14F A4F A4F A14F A14F (riverD (.inl (x3, x3)) (.inl (y3, y3)) (.inl (0, 4)) 3 8 3 41 45 49) (riverD (.inl (x4, x4)) (.inl (y4, y4)) (.inl (0, 4)) 3 8 3 42 46 50) (xD 12 Da1) (xD 12 Da2) (xD 12 Da3) (xD 12 Da4) (xD 12 Sa1) (xD 12 Sa2) (xD 12 Sa3) (xD 12 Sa4) (xD 48 Qa1) (xD 48 Qa2) (xD 48 Qa3) (xD 48 Qa4)) H1 := hN_
  refine lv_pop hx hb dL_law_544 rfl ?_
  refine lv_aload_n hx hb dL_law_545 rfl (lv_at hl 1 rfl) ?_
  refine lawVi (E := (eM l G k tM aX aV)) (b := g0) (As := []) (rest := []) F hK hN hOm hTm (c_X7_undo (eM l G k tM aX aV) (xD 1320 V0) (xD 660 A0) (xD 660 B1) m_second (xB 400 T) (xZ 2 K0) (0, 18) (((-2147483648), 2147483647)) (t, t) (((-2147483648), 2147483647)) (0, 4000) (((-2147483648), 2147483647)) (((-2147483648), 2147483647)) (0, 1) u X0 W0 Z g0 (List.mem_singleton.mpr hg0) (by omega) hX0 hW0 hmW0 hqX0) mv_X7_undo wd_38_16 ⟨Nat.le_of_ble_eq_true rfl, Nat.le_of_ble_eq_true rfl⟩ ⟨Nat.le_of_ble_eq_true rfl, Nat.le_of_ble_eq_true rfl⟩ hM hS (tRecv hK hM (by rw [show eT (eM l G k tM aX aV) g0 = 24 from hg0]; rfl) clX7) rfl hl.1 (Nat.le_of_ble_eq_true rfl) dL_law_546 (fun v1 H1 locs hq hk_ hS => ?_)
  obtain ⟨u2_1, hu2_1, X2_1, hX2_1, f1_0, hN_⟩ := hq
  have hC := keptC hdis hC hk_
  have hM : TH (eM l G k tM aX aV) (tbM (mD (.inl (t, t)) (.inl (-2147483648, 2147483647)) (.inl (-2147483648, 2147483647)) (.inl (u2_1, u2_1)) (.inl (0, 18)) (.inl (-2147483648, 2147483647)) (.inl (0, 4000)) (.inl (-2147483648, 2147483647)) (.inl (0, 1))) (xD 660 X2_1) (xD 6600 W0) (xD 1320 V0) (xD 660 A0) (xD 660 B1) m_second (xB 400 T) (xZ 2 K0)) H1 := hN_
  refine lv_pop hx hb dL_law_549 rfl ?_
  refine lv_goto (tgt := 1529) hx hb dL_law_550 (by decide) ?_
  have hG_ : ((kr = [26] ∧ ks = [27]) ∨ (kr = [27] ∧ ks = [26])) ∧ (0 ≤ kb ∧ kb ≤ 3) ∧ (0 ≤ x1 ∧ x1 ≤ 12) ∧ (0 ≤ y1 ∧ y1 ≤ 14) ∧ (0 ≤ x2 ∧ x2 ≤ 12) ∧ (0 ≤ y2 ∧ y2 ≤ 14) ∧ (0 ≤ x3 ∧ x3 ≤ 12) ∧ (0 ≤ y3 ∧ y3 ≤ 14) ∧ (0 ≤ x4 ∧ x4 ≤ 12) ∧ (0 ≤ y4 ∧ y4 ≤ 14) ∧ ivP 12 (-2) 11 Da1 ∧ ivP 12 (-2147483648) 2147483647 Sa1 ∧ ivP 48 (-2147483648) 2147483647 Qa1 ∧ ivP 12 (-2) 11 Da2 ∧ ivP 12 (-2147483648) 2147483647 Sa2 ∧ ivP 48 (-2147483648) 2147483647 Qa2 ∧ ivP 12 (-2) 11 Da3 ∧ ivP 12 (-2147483648) 2147483647 Sa3 ∧ ivP 48 (-2147483648) 2147483647 Qa3 ∧ ivP 12 (-2) 11 Da4 ∧ ivP 12 (-2147483648) 2147483647 Sa4 ∧ ivP 48 (-2147483648) 2147483647 Qa4 := ⟨hkk, (by omega), (by omega), (by omega), (by omega), (by omega), (by omega), (by omega), (by omega), (by omega), hDa1, hSa1, hQa1, hDa2, hSa2, hQa2, hDa3, hSa3, hQa3, hDa4, hSa4, hQa4⟩
  exact hend t T (kr, ks, kb, x1, y1, x2, y2, x3, y3, x4, y4, Da1, Sa1, Qa1, Da2, Sa2, Qa2, Da3, Sa3, Qa3, Da4, Sa4, Qa4) _ _ ⟨(by omega), hT8⟩ hG_ hC ⟨X2_1, W0, V0, A0, B1, K0, Z, Y0, Y1, u2_1, (by omega), hX2_1.1, hW0, hV0, hA0, hK0, hX2_1.2, hu2_1.2.2, hy0, hy1, hTie, hM⟩ hS
set_option maxHeartbeats 4000000 in
set_option maxRecDepth 100000 in
theorem law_c11 {pg_ : Program} {l : Launch} {ev_ : Env} {s : State} {mi_ : MethodId} {below_ : List Frame} {meth : Method} {cd_ : Code} {H : Heap} {locs : List Loc} {ls : Array Slot} {b L : Nat} {xs : Nat → Int32} {G : va_G} {k : Nat → ClassId} {tC tM aX aV : Nat → Nat} {h0 g0 : Nat} {i : Int32} {t : Int} {T : RwF} {g : Gs} (B0 : LB pg_ s mi_ meth cd_ b L xs l G k tC tM aX aV h0 g0) (hi : 0 ≤ i.toInt ∧ i.toInt + 6 ≤ L) (ht : (0 ≤ t ∧ t ≤ 400) ∧ ivP 400 (-128) 127 T) (hg : Gok g) (hC : Cs (eC l G k tC aX aV) t T g H) (hMs : Ms (eM l G k tM aX aV) t T g H) (hS : va_S (lawA s) s.heap H locs) (hl : lv_has ls 4 [(3, .int i), (2, .ref g0), (1, .ref h0), (0, .ref b)]) (hend : ∀ (t : Int) (T : RwF) (g : Gs) (H : Heap) (locs : List Loc), ((0 ≤ t ∧ t ≤ 400) ∧ ivP 400 (-128) 127 T) → Gok g → Cs (eC l G k tC aX aV) t T g H → Ms (eM l G k tM aX aV) t T g H → va_S (lawA s) s.heap H locs → W pg_ l ev_ room_1 s mi_ #[Value.ref b] below_ meth cd_ H locs 294 18964 (lw_Z below_ #[Value.ref b] s) (F0 mi_ 1529 ls [])) : W pg_ l ev_ room_1 s mi_ #[Value.ref b] below_ meth cd_ H locs 294 18964 (lw_Z below_ #[Value.ref b] s) (F0 mi_ 553 ls []) := by
  obtain ⟨F, hK, hN, hOc, hOm, hX, hbl, hL, hTc, hTm, hdis, hh0, hg0⟩ := id B0
  obtain ⟨hx, hb, hr, hml, hown, hlk, hw, -⟩ := id F
  have hbA : ¬ lawA s b := fun q => absurd q (by unfold lawA; omega)
  obtain ⟨kr, ks, kb, x1, y1, x2, y2, x3, y3, x4, y4, Da1, Sa1, Qa1, Da2, Sa2, Qa2, Da3, Sa3, Qa3, Da4, Sa4, Qa4⟩ := g
  obtain ⟨X0, W0, V0, A0, B1, K0, Z, Y0, Y1, u, hu, hX0, hW0, hV0, hA0, hK0, hqX0, hmW0, hy0, hy1, hTie0, hM⟩ := hMs
  obtain ⟨ht, hT8⟩ := ht
  have hg : ((kr = [26] ∧ ks = [27]) ∨ (kr = [27] ∧ ks = [26])) ∧ (0 ≤ kb ∧ kb ≤ 3) ∧ (0 ≤ x1 ∧ x1 ≤ 12) ∧ (0 ≤ y1 ∧ y1 ≤ 14) ∧ (0 ≤ x2 ∧ x2 ≤ 12) ∧ (0 ≤ y2 ∧ y2 ≤ 14) ∧ (0 ≤ x3 ∧ x3 ≤ 12) ∧ (0 ≤ y3 ∧ y3 ≤ 14) ∧ (0 ≤ x4 ∧ x4 ≤ 12) ∧ (0 ≤ y4 ∧ y4 ≤ 14) ∧ ivP 12 (-2) 11 Da1 ∧ ivP 12 (-2147483648) 2147483647 Sa1 ∧ ivP 48 (-2147483648) 2147483647 Qa1 ∧ ivP 12 (-2) 11 Da2 ∧ ivP 12 (-2147483648) 2147483647 Sa2 ∧ ivP 48 (-2147483648) 2147483647 Qa2 ∧ ivP 12 (-2) 11 Da3 ∧ ivP 12 (-2147483648) 2147483647 Sa3 ∧ ivP 48 (-2147483648) 2147483647 Qa3 ∧ ivP 12 (-2) 11 Da4 ∧ ivP 12 (-2147483648) 2147483647 Sa4 ∧ ivP 48 (-2147483648) 2147483647 Qa4 := hg
  obtain ⟨hkk, hkb, hx1, hy1_, hx2, hy2_, hx3, hy3_, hx4, hy4_, hDa1, hSa1, hQa1, hDa2, hSa2, hQa2, hDa3, hSa3, hQa3, hDa4, hSa4, hQa4⟩ := hg
  have hC : TH (eC l G k tC aX aV) (tbC (dayD (.inl (0, 18))) (dayD (.inl (0, 18))) (riverD (.inl (x1, x1)) (.inl (y1, y1)) (.inl (0, 4)) 31 33 35 39 43 47) (riverD (.inl (x2, x2)) (.inl (y2, y2)) (.inl (0, 4)) 32 34 36 40 44 48) (rcD (.inl (t, t)) (.inr kr) (.inr ks) (.inl (kb, kb))) (rdD (.inl (0, 400)) (.inl (0, 400)) (.inl (0, 4000)) (.inl (0, 1)) (.inr [26, 27])) (xB 400 T) A14F A14F A4F A4F A14F A14F (riverD (.inl (x3, x3)) (.inl (y3, y3)) (.inl (0, 4)) 3 8 3 41 45 49) (riverD (.inl (x4, x4)) (.inl (y4, y4)) (.inl (0, 4)) 3 8 3 42 46 50) (xD 12 Da1) (xD 12 Da2) (xD 12 Da3) (xD 12 Da4) (xD 12 Sa1) (xD 12 Sa2) (xD 12 Sa3) (xD 12 Sa4) (xD 48 Qa1) (xD 48 Qa2) (xD 48 Qa3) (xD 48 Qa4)) H := hC
  have hTie : (kr = [26] → rowT x1 Da1 Sa1 Qa1 Z) ∧ (kr = [27] → rowT x2 Da2 Sa2 Qa2 Z) ∧ gI K0 0 = kb % 2 ∧ gI K0 1 = kb / 2 ∧ (kb % 2 = 1 → rowT x3 Da3 Sa3 Qa3 Y0) ∧ (kb / 2 = 1 → rowT x4 Da4 Sa4 Qa4 Y1) := hTie0
  clear hTie0
  have hk1 : (i + 1).toInt = i.toInt + 1 := by
    have h1 := i_add (x := i) (y := 1) (by rw [show (1 : Int32).toInt = 1 by decide]; omega) (by rw [show (1 : Int32).toInt = 1 by decide]; omega)
    rw [show (1 : Int32).toInt = 1 by decide] at h1
    exact h1
  refine lv_aload_n hx hb dL_law_553 rfl (lv_at hl 2 rfl) ?_
  refine lv_aload_n hx hb dL_law_554 rfl (lv_at hl 3 rfl) ?_
  refine lv_iload_n hx hb dL_law_555 rfl (lv_at hl 0 rfl) ?_
  refine lv_iconst (v := 1) hx hb dL_law_556 (by decide) ?_
  refine lv_iadd hx hb dL_law_557 ?_
  refine va_sld hx hb hX hbl hbA hS (vinT (by rw [hk1]; omega)) dL_law_558 ?_
  refine lv_topi (fun a1_0 ea1_0 => ?_)
  rcases (by omega : (a1_0.toInt < 0 ∨ 1 < a1_0.toInt) ∨ a1_0.toInt = 0 ∨ a1_0.toInt = 1) with hr_ | hr_ | hr_
  · skip
    have hkr : ∀ t ∈ kr, t ∈ [26, 27] := by rcases hkk with ⟨h9_, -⟩ | ⟨h9_, -⟩ <;> rw [h9_] <;> decide
    have hks : ∀ t ∈ ks, t ∈ [26, 27] := by rcases hkk with ⟨-, h9_⟩ | ⟨-, h9_⟩ <;> rw [h9_] <;> decide
    refine lawVi (E := (eC l G k tC aX aV)) (b := h0) (As := [.int a1_0]) (rest := []) F hK hN hOc hTc (c_X6_keep_n (eC l G k tC aX aV) (rdD (.inl (0, 400)) (.inl (0, 400)) (.inl (0, 4000)) (.inl (0, 1)) (.inr [26, 27])) (xB 400 T) (kb, kb) (x1, x1) (y1, y1) (x2, x2) (y2, y2) (x3, x3) (y3, y3) (x4, x4) (y4, y4) kr ks (fun f_ => f_ = Da1) (fun f_ => f_ = Da2) (fun f_ => f_ = Da3) (fun f_ => f_ = Da4) (fun f_ => f_ = Sa1) (fun f_ => f_ = Sa2) (fun f_ => f_ = Sa3) (fun f_ => f_ = Sa4) (fun f_ => f_ = Qa1) (fun f_ => f_ = Qa2) (fun f_ => f_ = Qa3) (fun f_ => f_ = Qa4) t h0 a1_0 (List.mem_singleton.mpr hh0) (by omega) (by show 0 ≤ x1 ∧ x1 ≤ 12; omega) (by show 0 ≤ y1 ∧ y1 ≤ 14; omega) (by show 0 ≤ x2 ∧ x2 ≤ 12; omega) (by show 0 ≤ y2 ∧ y2 ≤ 14; omega) (by show 0 ≤ x3 ∧ x3 ≤ 12; omega) (by show 0 ≤ y3 ∧ y3 ≤ 14; omega) (by show 0 ≤ x4 ∧ x4 ≤ 12; omega) (by show 0 ≤ y4 ∧ y4 ≤ 14; omega) hkr hks (fun f_ h_ => ivX hDa1 h_) (fun f_ h_ => ivX hDa2 h_) (fun f_ h_ => ivX hDa3 h_) (fun f_ h_ => ivX hDa4 h_) (fun f_ h_ => ivX hSa1 h_) (fun f_ h_ => ivX hSa2 h_) (fun f_ h_ => ivX hSa3 h_) (fun f_ h_ => ivX hSa4 h_) (fun f_ h_ => ivX hQa1 h_) (fun f_ h_ => ivX hQa2 h_) (fun f_ h_ => ivX hQa3 h_) (fun f_ h_ => ivX hQa4 h_) hr_) mv_X6_keep wd_38_20 ⟨Nat.le_of_ble_eq_true rfl, Nat.le_of_ble_eq_true rfl⟩ ⟨Nat.le_of_ble_eq_true rfl, Nat.le_of_ble_eq_true rfl⟩ hC hS (tRecv hK hC (by rw [show eT (eC l G k tC aX aV) h0 = 28 from hh0]; rfl) clX6) rfl hl.1 (Nat.le_of_ble_eq_true rfl) dL_law_559 (fun v0 H1 locs hq hk_ hS => ?_)
    obtain ⟨f0_0, hN_⟩ := hq
    have hM := keptM hdis hM hk_
    have hC : TH (eC l G k tC aX aV) (tbC (dayD (.inl (0, 18))) (dayD (.inl (0, 18))) (riverD (.inl (x1, x1)) (.inl (y1, y1)) (.inl (0, 4)) 31 33 35 39 43 47) (riverD (.inl (x2, x2)) (.inl (y2, y2)) (.inl (0, 4)) 32 34 36 40 44 48) (rcD (.inl (t, t)) (.inr kr) (.inr ks) (.inl (kb, kb))) (rdD (.inl (0, 400)) (.inl (0, 400)) (.inl (0, 4000)) (.inl (0, 1)) (.inr [26, 27])) (xB 400 T) A14F A14F A4F A4F A14F A14F (riverD (.inl (x3, x3)) (.inl (y3, y3)) (.inl (0, 4)) 3 8 3 41 45 49) (riverD (.inl (x4, x4)) (.inl (y4, y4)) (.inl (0, 4)) 3 8 3 42 46 50) (xD 12 Da1) (xD 12 Da2) (xD 12 Da3) (xD 12 Da4) (xD 12 Sa1) (xD 12 Sa2) (xD 12 Sa3) (xD 12 Sa4) (xD 48 Qa1) (xD 48 Qa2) (xD 48 Qa3) (xD 48 Qa4)) H1 := hN_
    refine lv_pop hx hb dL_law_562 rfl ?_
    refine lv_aload_n hx hb dL_law_563 rfl (lv_at hl 1 rfl) ?_
    refine lv_aload_n hx hb dL_law_564 rfl (lv_at hl 3 rfl) ?_
    refine lv_iload_n hx hb dL_law_565 rfl (lv_at hl 0 rfl) ?_
    refine lv_iconst (v := 1) hx hb dL_law_566 (by decide) ?_
    refine lv_iadd hx hb dL_law_567 ?_
    refine va_sld hx hb hX hbl hbA hS (vinT (by rw [hk1]; omega)) dL_law_568 ?_
    refine lv_topi (fun a1_1 ea1_1 => ?_)
    obtain rfl : a1_0 = a1_1 := ea1_0.trans ea1_1.symm
    refine lawVi (E := (eM l G k tM aX aV)) (b := g0) (As := [.int a1_0]) (rest := []) F hK hN hOm hTm (c_X7_keep_n (eM l G k tM aX aV) (mD (.inl (t, t)) (.inl ((-2147483648), 2147483647)) (.inl ((-2147483648), 2147483647)) (.inl (u, u)) (.inl (0, 18)) (.inl ((-2147483648), 2147483647)) (.inl (0, 4000)) (.inl ((-2147483648), 2147483647)) (.inl (0, 1))) (xD 660 X0) (xD 6600 W0) (xD 1320 V0) (xD 660 A0) (xD 660 B1) m_second (xB 400 T) (xZ 2 K0) g0 a1_0 (List.mem_singleton.mpr hg0) hr_) mv_X7_keep wd_39_5 ⟨Nat.le_of_ble_eq_true rfl, Nat.le_of_ble_eq_true rfl⟩ ⟨Nat.le_of_ble_eq_true rfl, Nat.le_of_ble_eq_true rfl⟩ hM hS (tRecv hK hM (by rw [show eT (eM l G k tM aX aV) g0 = 24 from hg0]; rfl) clX7) rfl hl.1 (Nat.le_of_ble_eq_true rfl) dL_law_569 (fun v1 H1 locs hq hk_ hS => ?_)
    obtain ⟨f1_0, hN_⟩ := hq
    have hC := keptC hdis hC hk_
    have hM : TH (eM l G k tM aX aV) (tbM (mD (.inl (t, t)) (.inl (-2147483648, 2147483647)) (.inl (-2147483648, 2147483647)) (.inl (u, u)) (.inl (0, 18)) (.inl (-2147483648, 2147483647)) (.inl (0, 4000)) (.inl (-2147483648, 2147483647)) (.inl (0, 1))) (xD 660 X0) (xD 6600 W0) (xD 1320 V0) (xD 660 A0) (xD 660 B1) m_second (xB 400 T) (xZ 2 K0)) H1 := hN_
    refine lv_pop hx hb dL_law_572 rfl ?_
    refine lv_goto (tgt := 1529) hx hb dL_law_573 (by decide) ?_
    have hG_ : ((kr = [26] ∧ ks = [27]) ∨ (kr = [27] ∧ ks = [26])) ∧ (0 ≤ kb ∧ kb ≤ 3) ∧ (0 ≤ x1 ∧ x1 ≤ 12) ∧ (0 ≤ y1 ∧ y1 ≤ 14) ∧ (0 ≤ x2 ∧ x2 ≤ 12) ∧ (0 ≤ y2 ∧ y2 ≤ 14) ∧ (0 ≤ x3 ∧ x3 ≤ 12) ∧ (0 ≤ y3 ∧ y3 ≤ 14) ∧ (0 ≤ x4 ∧ x4 ≤ 12) ∧ (0 ≤ y4 ∧ y4 ≤ 14) ∧ ivP 12 (-2) 11 Da1 ∧ ivP 12 (-2147483648) 2147483647 Sa1 ∧ ivP 48 (-2147483648) 2147483647 Qa1 ∧ ivP 12 (-2) 11 Da2 ∧ ivP 12 (-2147483648) 2147483647 Sa2 ∧ ivP 48 (-2147483648) 2147483647 Qa2 ∧ ivP 12 (-2) 11 Da3 ∧ ivP 12 (-2147483648) 2147483647 Sa3 ∧ ivP 48 (-2147483648) 2147483647 Qa3 ∧ ivP 12 (-2) 11 Da4 ∧ ivP 12 (-2147483648) 2147483647 Sa4 ∧ ivP 48 (-2147483648) 2147483647 Qa4 := ⟨hkk, (by omega), (by omega), (by omega), (by omega), (by omega), (by omega), (by omega), (by omega), (by omega), hDa1, hSa1, hQa1, hDa2, hSa2, hQa2, hDa3, hSa3, hQa3, hDa4, hSa4, hQa4⟩
    exact hend t T (kr, ks, kb, x1, y1, x2, y2, x3, y3, x4, y4, Da1, Sa1, Qa1, Da2, Sa2, Qa2, Da3, Sa3, Qa3, Da4, Sa4, Qa4) _ _ ⟨(by omega), hT8⟩ hG_ hC ⟨X0, W0, V0, A0, B1, K0, Z, Y0, Y1, u, (by omega), hX0, hW0, hV0, hA0, hK0, hqX0, hmW0, hy0, hy1, hTie, hM⟩ hS
  · skip
    rcases hkk with ⟨rfl, rfl⟩ | ⟨rfl, rfl⟩
    · skip
      have hks : ∀ t ∈ ([27] : List Nat), t ∈ [26, 27] := by decide
      refine lawVi (E := (eC l G k tC aX aV)) (b := h0) (As := [.int a1_0]) (rest := []) F hK hN hOc hTc (c_X6_keepx_0_1 (eC l G k tC aX aV) (rdD (.inl (0, 400)) (.inl (0, 400)) (.inl (0, 4000)) (.inl (0, 1)) (.inr [26, 27])) (xB 400 T) (x2, x2) (y2, y2) (x3, x3) (y3, y3) (x4, x4) (y4, y4) ([27]) (fun f_ => f_ = Da2) (fun f_ => f_ = Da4) (fun f_ => f_ = Sa2) (fun f_ => f_ = Sa4) (fun f_ => f_ = Qa2) (fun f_ => f_ = Qa4) x1 y1 t kb Da1 Da3 Sa1 Sa3 Qa1 Qa3 h0 a1_0 (List.mem_singleton.mpr hh0) (by omega) (by omega) (by omega) (by omega) (by omega) hDa1 hDa3 hSa1 hSa3 hQa1 hQa3 (by show 0 ≤ x2 ∧ x2 ≤ 12; omega) (by show 0 ≤ y2 ∧ y2 ≤ 14; omega) (by show 0 ≤ x3 ∧ x3 ≤ 12; omega) (by show 0 ≤ y3 ∧ y3 ≤ 14; omega) (by show 0 ≤ x4 ∧ x4 ≤ 12; omega) (by show 0 ≤ y4 ∧ y4 ≤ 14; omega) (by decide) (fun f_ h_ => ivX hDa2 h_) (fun f_ h_ => ivX hDa4 h_) (fun f_ h_ => ivX hSa2 h_) (fun f_ h_ => ivX hSa4 h_) (fun f_ h_ => ivX hQa2 h_) (fun f_ h_ => ivX hQa4 h_)) mv_X6_keep wd_38_20 ⟨Nat.le_of_ble_eq_true rfl, Nat.le_of_ble_eq_true rfl⟩ ⟨Nat.le_of_ble_eq_true rfl, Nat.le_of_ble_eq_true rfl⟩ hC hS (tRecv hK hC (by rw [show eT (eC l G k tC aX aV) h0 = 28 from hh0]; rfl) clX6) rfl hl.1 (Nat.le_of_ble_eq_true rfl) dL_law_559 (fun v0 H1 locs hq hk_ hS => ?_)
      obtain ⟨kb2_0, hkb2_0, D2_0, hD2_0, Kn2_0, hKn2_0, Q2_0, hQ2_0, f0_0, hN_⟩ := hq
      have hM := keptM hdis hM hk_
      have hC : TH (eC l G k tC aX aV) (tbC (dayD (.inl (0, 18))) (dayD (.inl (0, 18))) (riverD (.inl (x1, x1)) (.inl (y1, y1)) (.inl (0, 4)) 31 33 35 39 43 47) (riverD (.inl (x2, x2)) (.inl (y2, y2)) (.inl (0, 4)) 32 34 36 40 44 48) (rcD (.inl (t, t)) (.inr [26]) (.inr [27]) (.inl (kb2_0, kb2_0))) (rdD (.inl (0, 400)) (.inl (0, 400)) (.inl (0, 4000)) (.inl (0, 1)) (.inr [26, 27])) (xB 400 T) A14F A14F A4F A4F A14F A14F (riverD (.inl (x1, x1)) (.inl (y1, y1)) (.inl (0, 4)) 3 8 3 41 45 49) (riverD (.inl (x4, x4)) (.inl (y4, y4)) (.inl (0, 4)) 3 8 3 42 46 50) (xD 12 Da1) (xD 12 Da2) (xD 12 D2_0) (xD 12 Da4) (xD 12 Sa1) (xD 12 Sa2) (xD 12 Kn2_0) (xD 12 Sa4) (xD 48 Qa1) (xD 48 Qa2) (xD 48 Q2_0) (xD 48 Qa4)) H1 := hN_
      refine lv_pop hx hb dL_law_562 rfl ?_
      refine lv_aload_n hx hb dL_law_563 rfl (lv_at hl 1 rfl) ?_
      refine lv_aload_n hx hb dL_law_564 rfl (lv_at hl 3 rfl) ?_
      refine lv_iload_n hx hb dL_law_565 rfl (lv_at hl 0 rfl) ?_
      refine lv_iconst (v := 1) hx hb dL_law_566 (by decide) ?_
      refine lv_iadd hx hb dL_law_567 ?_
      refine va_sld hx hb hX hbl hbA hS (vinT (by rw [hk1]; omega)) dL_law_568 ?_
      refine lv_topi (fun a1_1 ea1_1 => ?_)
      obtain rfl : a1_0 = a1_1 := ea1_0.trans ea1_1.symm
      refine lawVi (E := (eM l G k tM aX aV)) (b := g0) (As := [.int a1_0]) (rest := []) F hK hN hOm hTm (c_X7_keep_0 (eM l G k tM aX aV) (xD 6600 W0) (xD 660 A0) (xD 660 B1) m_second (xB 400 T) (u, u) (0, 18) (((-2147483648), 2147483647)) (t, t) (((-2147483648), 2147483647)) (0, 4000) (((-2147483648), 2147483647)) (((-2147483648), 2147483647)) (0, 1) X0 V0 K0 Z g0 a1_0 (List.mem_singleton.mpr hg0) (by omega) hX0 hV0 hK0 hqX0) mv_X7_keep wd_39_5 ⟨Nat.le_of_ble_eq_true rfl, Nat.le_of_ble_eq_true rfl⟩ ⟨Nat.le_of_ble_eq_true rfl, Nat.le_of_ble_eq_true rfl⟩ hM hS (tRecv hK hM (by rw [show eT (eM l G k tM aX aV) g0 = 24 from hg0]; rfl) clX7) rfl hl.1 (Nat.le_of_ble_eq_true rfl) dL_law_569 (fun v1 H1 locs hq hk_ hS => ?_)
      obtain ⟨V2_1, hV2_1, Kq_1, hKq_1, f1_0, hN_⟩ := hq
      have hC := keptC hdis hC hk_
      have hM : TH (eM l G k tM aX aV) (tbM (mD (.inl (t, t)) (.inl (-2147483648, 2147483647)) (.inl (-2147483648, 2147483647)) (.inl (u, u)) (.inl (0, 18)) (.inl (-2147483648, 2147483647)) (.inl (0, 4000)) (.inl (-2147483648, 2147483647)) (.inl (0, 1))) (xD 660 X0) (xD 6600 W0) (xD 1320 V2_1) (xD 660 A0) (xD 660 B1) m_second (xB 400 T) (xZ 2 Kq_1)) H1 := hN_
      have e2_ := rowT.cp (hTie.1 rfl) (by omega) hD2_0.2 hKn2_0.2 hQ2_0.2
      have hTie : ([26] = [26] → rowT x1 Da1 Sa1 Qa1 Z) ∧ ([26] = [27] → rowT x2 Da2 Sa2 Qa2 Z) ∧ gI Kq_1 0 = kb2_0 % 2 ∧ gI Kq_1 1 = kb2_0 / 2 ∧ (kb2_0 % 2 = 1 → rowT x1 D2_0 Kn2_0 Q2_0 Z) ∧ (kb2_0 / 2 = 1 → rowT x4 Da4 Sa4 Qa4 Y1) := by
        have h3_ := hkb2_0.2.2
        have h4_ := hKq_1.2
        refine ⟨hTie.1, hTie.2.1, by omega, by omega, fun h5_ => ?_, fun h5_ => ?_⟩
        · exact e2_
        · exact hTie.2.2.2.2.2 (by omega)
      refine lv_pop hx hb dL_law_572 rfl ?_
      refine lv_goto (tgt := 1529) hx hb dL_law_573 (by decide) ?_
      have hG_ : (([26] = [26] ∧ [27] = [27]) ∨ ([26] = [27] ∧ [27] = [26])) ∧ (0 ≤ kb2_0 ∧ kb2_0 ≤ 3) ∧ (0 ≤ x1 ∧ x1 ≤ 12) ∧ (0 ≤ y1 ∧ y1 ≤ 14) ∧ (0 ≤ x2 ∧ x2 ≤ 12) ∧ (0 ≤ y2 ∧ y2 ≤ 14) ∧ (0 ≤ x1 ∧ x1 ≤ 12) ∧ (0 ≤ y1 ∧ y1 ≤ 14) ∧ (0 ≤ x4 ∧ x4 ≤ 12) ∧ (0 ≤ y4 ∧ y4 ≤ 14) ∧ ivP 12 (-2) 11 Da1 ∧ ivP 12 (-2147483648) 2147483647 Sa1 ∧ ivP 48 (-2147483648) 2147483647 Qa1 ∧ ivP 12 (-2) 11 Da2 ∧ ivP 12 (-2147483648) 2147483647 Sa2 ∧ ivP 48 (-2147483648) 2147483647 Qa2 ∧ ivP 12 (-2) 11 D2_0 ∧ ivP 12 (-2147483648) 2147483647 Kn2_0 ∧ ivP 48 (-2147483648) 2147483647 Q2_0 ∧ ivP 12 (-2) 11 Da4 ∧ ivP 12 (-2147483648) 2147483647 Sa4 ∧ ivP 48 (-2147483648) 2147483647 Qa4 := ⟨(by decide), (by omega), (by omega), (by omega), (by omega), (by omega), (by omega), (by omega), (by omega), (by omega), hDa1, hSa1, hQa1, hDa2, hSa2, hQa2, hD2_0.1, hKn2_0.1, hQ2_0.1, hDa4, hSa4, hQa4⟩
      exact hend t T ([26], [27], kb2_0, x1, y1, x2, y2, x1, y1, x4, y4, Da1, Sa1, Qa1, Da2, Sa2, Qa2, D2_0, Kn2_0, Q2_0, Da4, Sa4, Qa4) _ _ ⟨(by omega), hT8⟩ hG_ hC ⟨X0, W0, V2_1, A0, B1, Kq_1, Z, Z, Y1, u, (by omega), hX0, hW0, hV2_1.1, hA0, hKq_1.1, hqX0, hmW0, hV2_1.2.1, (hV2_1.2.2 _ hy1), hTie, hM⟩ hS
    · skip
      have hks : ∀ t ∈ ([26] : List Nat), t ∈ [26, 27] := by decide
      refine lawVi (E := (eC l G k tC aX aV)) (b := h0) (As := [.int a1_0]) (rest := []) F hK hN hOc hTc (c_X6_keepx_0_2 (eC l G k tC aX aV) (rdD (.inl (0, 400)) (.inl (0, 400)) (.inl (0, 4000)) (.inl (0, 1)) (.inr [26, 27])) (xB 400 T) (x1, x1) (y1, y1) (x3, x3) (y3, y3) (x4, x4) (y4, y4) ([26]) (fun f_ => f_ = Da1) (fun f_ => f_ = Da4) (fun f_ => f_ = Sa1) (fun f_ => f_ = Sa4) (fun f_ => f_ = Qa1) (fun f_ => f_ = Qa4) x2 y2 t kb Da2 Da3 Sa2 Sa3 Qa2 Qa3 h0 a1_0 (List.mem_singleton.mpr hh0) (by omega) (by omega) (by omega) (by omega) (by omega) hDa2 hDa3 hSa2 hSa3 hQa2 hQa3 (by show 0 ≤ x1 ∧ x1 ≤ 12; omega) (by show 0 ≤ y1 ∧ y1 ≤ 14; omega) (by show 0 ≤ x3 ∧ x3 ≤ 12; omega) (by show 0 ≤ y3 ∧ y3 ≤ 14; omega) (by show 0 ≤ x4 ∧ x4 ≤ 12; omega) (by show 0 ≤ y4 ∧ y4 ≤ 14; omega) (by decide) (fun f_ h_ => ivX hDa1 h_) (fun f_ h_ => ivX hDa4 h_) (fun f_ h_ => ivX hSa1 h_) (fun f_ h_ => ivX hSa4 h_) (fun f_ h_ => ivX hQa1 h_) (fun f_ h_ => ivX hQa4 h_)) mv_X6_keep wd_38_20 ⟨Nat.le_of_ble_eq_true rfl, Nat.le_of_ble_eq_true rfl⟩ ⟨Nat.le_of_ble_eq_true rfl, Nat.le_of_ble_eq_true rfl⟩ hC hS (tRecv hK hC (by rw [show eT (eC l G k tC aX aV) h0 = 28 from hh0]; rfl) clX6) rfl hl.1 (Nat.le_of_ble_eq_true rfl) dL_law_559 (fun v0 H1 locs hq hk_ hS => ?_)
      obtain ⟨kb2_0, hkb2_0, D2_0, hD2_0, Kn2_0, hKn2_0, Q2_0, hQ2_0, f0_0, hN_⟩ := hq
      have hM := keptM hdis hM hk_
      have hC : TH (eC l G k tC aX aV) (tbC (dayD (.inl (0, 18))) (dayD (.inl (0, 18))) (riverD (.inl (x1, x1)) (.inl (y1, y1)) (.inl (0, 4)) 31 33 35 39 43 47) (riverD (.inl (x2, x2)) (.inl (y2, y2)) (.inl (0, 4)) 32 34 36 40 44 48) (rcD (.inl (t, t)) (.inr [27]) (.inr [26]) (.inl (kb2_0, kb2_0))) (rdD (.inl (0, 400)) (.inl (0, 400)) (.inl (0, 4000)) (.inl (0, 1)) (.inr [26, 27])) (xB 400 T) A14F A14F A4F A4F A14F A14F (riverD (.inl (x2, x2)) (.inl (y2, y2)) (.inl (0, 4)) 3 8 3 41 45 49) (riverD (.inl (x4, x4)) (.inl (y4, y4)) (.inl (0, 4)) 3 8 3 42 46 50) (xD 12 Da1) (xD 12 Da2) (xD 12 D2_0) (xD 12 Da4) (xD 12 Sa1) (xD 12 Sa2) (xD 12 Kn2_0) (xD 12 Sa4) (xD 48 Qa1) (xD 48 Qa2) (xD 48 Q2_0) (xD 48 Qa4)) H1 := hN_
      refine lv_pop hx hb dL_law_562 rfl ?_
      refine lv_aload_n hx hb dL_law_563 rfl (lv_at hl 1 rfl) ?_
      refine lv_aload_n hx hb dL_law_564 rfl (lv_at hl 3 rfl) ?_
      refine lv_iload_n hx hb dL_law_565 rfl (lv_at hl 0 rfl) ?_
      refine lv_iconst (v := 1) hx hb dL_law_566 (by decide) ?_
      refine lv_iadd hx hb dL_law_567 ?_
      refine va_sld hx hb hX hbl hbA hS (vinT (by rw [hk1]; omega)) dL_law_568 ?_
      refine lv_topi (fun a1_1 ea1_1 => ?_)
      obtain rfl : a1_0 = a1_1 := ea1_0.trans ea1_1.symm
      refine lawVi (E := (eM l G k tM aX aV)) (b := g0) (As := [.int a1_0]) (rest := []) F hK hN hOm hTm (c_X7_keep_0 (eM l G k tM aX aV) (xD 6600 W0) (xD 660 A0) (xD 660 B1) m_second (xB 400 T) (u, u) (0, 18) (((-2147483648), 2147483647)) (t, t) (((-2147483648), 2147483647)) (0, 4000) (((-2147483648), 2147483647)) (((-2147483648), 2147483647)) (0, 1) X0 V0 K0 Z g0 a1_0 (List.mem_singleton.mpr hg0) (by omega) hX0 hV0 hK0 hqX0) mv_X7_keep wd_39_5 ⟨Nat.le_of_ble_eq_true rfl, Nat.le_of_ble_eq_true rfl⟩ ⟨Nat.le_of_ble_eq_true rfl, Nat.le_of_ble_eq_true rfl⟩ hM hS (tRecv hK hM (by rw [show eT (eM l G k tM aX aV) g0 = 24 from hg0]; rfl) clX7) rfl hl.1 (Nat.le_of_ble_eq_true rfl) dL_law_569 (fun v1 H1 locs hq hk_ hS => ?_)
      obtain ⟨V2_1, hV2_1, Kq_1, hKq_1, f1_0, hN_⟩ := hq
      have hC := keptC hdis hC hk_
      have hM : TH (eM l G k tM aX aV) (tbM (mD (.inl (t, t)) (.inl (-2147483648, 2147483647)) (.inl (-2147483648, 2147483647)) (.inl (u, u)) (.inl (0, 18)) (.inl (-2147483648, 2147483647)) (.inl (0, 4000)) (.inl (-2147483648, 2147483647)) (.inl (0, 1))) (xD 660 X0) (xD 6600 W0) (xD 1320 V2_1) (xD 660 A0) (xD 660 B1) m_second (xB 400 T) (xZ 2 Kq_1)) H1 := hN_
      have e2_ := rowT.cp (hTie.2.1 rfl) (by omega) hD2_0.2 hKn2_0.2 hQ2_0.2
      have hTie : ([27] = [26] → rowT x1 Da1 Sa1 Qa1 Z) ∧ ([27] = [27] → rowT x2 Da2 Sa2 Qa2 Z) ∧ gI Kq_1 0 = kb2_0 % 2 ∧ gI Kq_1 1 = kb2_0 / 2 ∧ (kb2_0 % 2 = 1 → rowT x2 D2_0 Kn2_0 Q2_0 Z) ∧ (kb2_0 / 2 = 1 → rowT x4 Da4 Sa4 Qa4 Y1) := by
        have h3_ := hkb2_0.2.2
        have h4_ := hKq_1.2
        refine ⟨hTie.1, hTie.2.1, by omega, by omega, fun h5_ => ?_, fun h5_ => ?_⟩
        · exact e2_
        · exact hTie.2.2.2.2.2 (by omega)
      refine lv_pop hx hb dL_law_572 rfl ?_
      refine lv_goto (tgt := 1529) hx hb dL_law_573 (by decide) ?_
      have hG_ : (([27] = [26] ∧ [26] = [27]) ∨ ([27] = [27] ∧ [26] = [26])) ∧ (0 ≤ kb2_0 ∧ kb2_0 ≤ 3) ∧ (0 ≤ x1 ∧ x1 ≤ 12) ∧ (0 ≤ y1 ∧ y1 ≤ 14) ∧ (0 ≤ x2 ∧ x2 ≤ 12) ∧ (0 ≤ y2 ∧ y2 ≤ 14) ∧ (0 ≤ x2 ∧ x2 ≤ 12) ∧ (0 ≤ y2 ∧ y2 ≤ 14) ∧ (0 ≤ x4 ∧ x4 ≤ 12) ∧ (0 ≤ y4 ∧ y4 ≤ 14) ∧ ivP 12 (-2) 11 Da1 ∧ ivP 12 (-2147483648) 2147483647 Sa1 ∧ ivP 48 (-2147483648) 2147483647 Qa1 ∧ ivP 12 (-2) 11 Da2 ∧ ivP 12 (-2147483648) 2147483647 Sa2 ∧ ivP 48 (-2147483648) 2147483647 Qa2 ∧ ivP 12 (-2) 11 D2_0 ∧ ivP 12 (-2147483648) 2147483647 Kn2_0 ∧ ivP 48 (-2147483648) 2147483647 Q2_0 ∧ ivP 12 (-2) 11 Da4 ∧ ivP 12 (-2147483648) 2147483647 Sa4 ∧ ivP 48 (-2147483648) 2147483647 Qa4 := ⟨(by decide), (by omega), (by omega), (by omega), (by omega), (by omega), (by omega), (by omega), (by omega), (by omega), hDa1, hSa1, hQa1, hDa2, hSa2, hQa2, hD2_0.1, hKn2_0.1, hQ2_0.1, hDa4, hSa4, hQa4⟩
      exact hend t T ([27], [26], kb2_0, x1, y1, x2, y2, x2, y2, x4, y4, Da1, Sa1, Qa1, Da2, Sa2, Qa2, D2_0, Kn2_0, Q2_0, Da4, Sa4, Qa4) _ _ ⟨(by omega), hT8⟩ hG_ hC ⟨X0, W0, V2_1, A0, B1, Kq_1, Z, Z, Y1, u, (by omega), hX0, hW0, hV2_1.1, hA0, hKq_1.1, hqX0, hmW0, hV2_1.2.1, (hV2_1.2.2 _ hy1), hTie, hM⟩ hS
  · skip
    rcases hkk with ⟨rfl, rfl⟩ | ⟨rfl, rfl⟩
    · skip
      have hks : ∀ t ∈ ([27] : List Nat), t ∈ [26, 27] := by decide
      refine lawVi (E := (eC l G k tC aX aV)) (b := h0) (As := [.int a1_0]) (rest := []) F hK hN hOc hTc (c_X6_keepx_1_1 (eC l G k tC aX aV) (rdD (.inl (0, 400)) (.inl (0, 400)) (.inl (0, 4000)) (.inl (0, 1)) (.inr [26, 27])) (xB 400 T) (x2, x2) (y2, y2) (x3, x3) (y3, y3) (x4, x4) (y4, y4) ([27]) (fun f_ => f_ = Da2) (fun f_ => f_ = Da3) (fun f_ => f_ = Sa2) (fun f_ => f_ = Sa3) (fun f_ => f_ = Qa2) (fun f_ => f_ = Qa3) x1 y1 t kb Da1 Da4 Sa1 Sa4 Qa1 Qa4 h0 a1_0 (List.mem_singleton.mpr hh0) (by omega) (by omega) (by omega) (by omega) (by omega) hDa1 hDa4 hSa1 hSa4 hQa1 hQa4 (by show 0 ≤ x2 ∧ x2 ≤ 12; omega) (by show 0 ≤ y2 ∧ y2 ≤ 14; omega) (by show 0 ≤ x3 ∧ x3 ≤ 12; omega) (by show 0 ≤ y3 ∧ y3 ≤ 14; omega) (by show 0 ≤ x4 ∧ x4 ≤ 12; omega) (by show 0 ≤ y4 ∧ y4 ≤ 14; omega) (by decide) (fun f_ h_ => ivX hDa2 h_) (fun f_ h_ => ivX hDa3 h_) (fun f_ h_ => ivX hSa2 h_) (fun f_ h_ => ivX hSa3 h_) (fun f_ h_ => ivX hQa2 h_) (fun f_ h_ => ivX hQa3 h_)) mv_X6_keep wd_38_20 ⟨Nat.le_of_ble_eq_true rfl, Nat.le_of_ble_eq_true rfl⟩ ⟨Nat.le_of_ble_eq_true rfl, Nat.le_of_ble_eq_true rfl⟩ hC hS (tRecv hK hC (by rw [show eT (eC l G k tC aX aV) h0 = 28 from hh0]; rfl) clX6) rfl hl.1 (Nat.le_of_ble_eq_true rfl) dL_law_559 (fun v0 H1 locs hq hk_ hS => ?_)
      obtain ⟨kb2_0, hkb2_0, D2_0, hD2_0, Kn2_0, hKn2_0, Q2_0, hQ2_0, f0_0, hN_⟩ := hq
      have hM := keptM hdis hM hk_
      have hC : TH (eC l G k tC aX aV) (tbC (dayD (.inl (0, 18))) (dayD (.inl (0, 18))) (riverD (.inl (x1, x1)) (.inl (y1, y1)) (.inl (0, 4)) 31 33 35 39 43 47) (riverD (.inl (x2, x2)) (.inl (y2, y2)) (.inl (0, 4)) 32 34 36 40 44 48) (rcD (.inl (t, t)) (.inr [26]) (.inr [27]) (.inl (kb2_0, kb2_0))) (rdD (.inl (0, 400)) (.inl (0, 400)) (.inl (0, 4000)) (.inl (0, 1)) (.inr [26, 27])) (xB 400 T) A14F A14F A4F A4F A14F A14F (riverD (.inl (x3, x3)) (.inl (y3, y3)) (.inl (0, 4)) 3 8 3 41 45 49) (riverD (.inl (x1, x1)) (.inl (y1, y1)) (.inl (0, 4)) 3 8 3 42 46 50) (xD 12 Da1) (xD 12 Da2) (xD 12 Da3) (xD 12 D2_0) (xD 12 Sa1) (xD 12 Sa2) (xD 12 Sa3) (xD 12 Kn2_0) (xD 48 Qa1) (xD 48 Qa2) (xD 48 Qa3) (xD 48 Q2_0)) H1 := hN_
      refine lv_pop hx hb dL_law_562 rfl ?_
      refine lv_aload_n hx hb dL_law_563 rfl (lv_at hl 1 rfl) ?_
      refine lv_aload_n hx hb dL_law_564 rfl (lv_at hl 3 rfl) ?_
      refine lv_iload_n hx hb dL_law_565 rfl (lv_at hl 0 rfl) ?_
      refine lv_iconst (v := 1) hx hb dL_law_566 (by decide) ?_
      refine lv_iadd hx hb dL_law_567 ?_
      refine va_sld hx hb hX hbl hbA hS (vinT (by rw [hk1]; omega)) dL_law_568 ?_
      refine lv_topi (fun a1_1 ea1_1 => ?_)
      obtain rfl : a1_0 = a1_1 := ea1_0.trans ea1_1.symm
      refine lawVi (E := (eM l G k tM aX aV)) (b := g0) (As := [.int a1_0]) (rest := []) F hK hN hOm hTm (c_X7_keep_1 (eM l G k tM aX aV) (xD 6600 W0) (xD 660 A0) (xD 660 B1) m_second (xB 400 T) (u, u) (0, 18) (((-2147483648), 2147483647)) (t, t) (((-2147483648), 2147483647)) (0, 4000) (((-2147483648), 2147483647)) (((-2147483648), 2147483647)) (0, 1) X0 V0 K0 Z g0 a1_0 (List.mem_singleton.mpr hg0) (by omega) hX0 hV0 hK0 hqX0) mv_X7_keep wd_39_5 ⟨Nat.le_of_ble_eq_true rfl, Nat.le_of_ble_eq_true rfl⟩ ⟨Nat.le_of_ble_eq_true rfl, Nat.le_of_ble_eq_true rfl⟩ hM hS (tRecv hK hM (by rw [show eT (eM l G k tM aX aV) g0 = 24 from hg0]; rfl) clX7) rfl hl.1 (Nat.le_of_ble_eq_true rfl) dL_law_569 (fun v1 H1 locs hq hk_ hS => ?_)
      obtain ⟨V2_1, hV2_1, Kq_1, hKq_1, f1_0, hN_⟩ := hq
      have hC := keptC hdis hC hk_
      have hM : TH (eM l G k tM aX aV) (tbM (mD (.inl (t, t)) (.inl (-2147483648, 2147483647)) (.inl (-2147483648, 2147483647)) (.inl (u, u)) (.inl (0, 18)) (.inl (-2147483648, 2147483647)) (.inl (0, 4000)) (.inl (-2147483648, 2147483647)) (.inl (0, 1))) (xD 660 X0) (xD 6600 W0) (xD 1320 V2_1) (xD 660 A0) (xD 660 B1) m_second (xB 400 T) (xZ 2 Kq_1)) H1 := hN_
      have e2_ := rowT.cp (hTie.1 rfl) (by omega) hD2_0.2 hKn2_0.2 hQ2_0.2
      have hTie : ([26] = [26] → rowT x1 Da1 Sa1 Qa1 Z) ∧ ([26] = [27] → rowT x2 Da2 Sa2 Qa2 Z) ∧ gI Kq_1 0 = kb2_0 % 2 ∧ gI Kq_1 1 = kb2_0 / 2 ∧ (kb2_0 % 2 = 1 → rowT x3 Da3 Sa3 Qa3 Y0) ∧ (kb2_0 / 2 = 1 → rowT x1 D2_0 Kn2_0 Q2_0 Z) := by
        have h3_ := hkb2_0.2.2
        have h4_ := hKq_1.2
        refine ⟨hTie.1, hTie.2.1, by omega, by omega, fun h5_ => ?_, fun h5_ => ?_⟩
        · exact hTie.2.2.2.2.1 (by omega)
        · exact e2_
      refine lv_pop hx hb dL_law_572 rfl ?_
      refine lv_goto (tgt := 1529) hx hb dL_law_573 (by decide) ?_
      have hG_ : (([26] = [26] ∧ [27] = [27]) ∨ ([26] = [27] ∧ [27] = [26])) ∧ (0 ≤ kb2_0 ∧ kb2_0 ≤ 3) ∧ (0 ≤ x1 ∧ x1 ≤ 12) ∧ (0 ≤ y1 ∧ y1 ≤ 14) ∧ (0 ≤ x2 ∧ x2 ≤ 12) ∧ (0 ≤ y2 ∧ y2 ≤ 14) ∧ (0 ≤ x3 ∧ x3 ≤ 12) ∧ (0 ≤ y3 ∧ y3 ≤ 14) ∧ (0 ≤ x1 ∧ x1 ≤ 12) ∧ (0 ≤ y1 ∧ y1 ≤ 14) ∧ ivP 12 (-2) 11 Da1 ∧ ivP 12 (-2147483648) 2147483647 Sa1 ∧ ivP 48 (-2147483648) 2147483647 Qa1 ∧ ivP 12 (-2) 11 Da2 ∧ ivP 12 (-2147483648) 2147483647 Sa2 ∧ ivP 48 (-2147483648) 2147483647 Qa2 ∧ ivP 12 (-2) 11 Da3 ∧ ivP 12 (-2147483648) 2147483647 Sa3 ∧ ivP 48 (-2147483648) 2147483647 Qa3 ∧ ivP 12 (-2) 11 D2_0 ∧ ivP 12 (-2147483648) 2147483647 Kn2_0 ∧ ivP 48 (-2147483648) 2147483647 Q2_0 := ⟨(by decide), (by omega), (by omega), (by omega), (by omega), (by omega), (by omega), (by omega), (by omega), (by omega), hDa1, hSa1, hQa1, hDa2, hSa2, hQa2, hDa3, hSa3, hQa3, hD2_0.1, hKn2_0.1, hQ2_0.1⟩
      exact hend t T ([26], [27], kb2_0, x1, y1, x2, y2, x3, y3, x1, y1, Da1, Sa1, Qa1, Da2, Sa2, Qa2, Da3, Sa3, Qa3, D2_0, Kn2_0, Q2_0) _ _ ⟨(by omega), hT8⟩ hG_ hC ⟨X0, W0, V2_1, A0, B1, Kq_1, Z, Y0, Z, u, (by omega), hX0, hW0, hV2_1.1, hA0, hKq_1.1, hqX0, hmW0, (hV2_1.2.2 _ hy0), hV2_1.2.1, hTie, hM⟩ hS
    · skip
      have hks : ∀ t ∈ ([26] : List Nat), t ∈ [26, 27] := by decide
      refine lawVi (E := (eC l G k tC aX aV)) (b := h0) (As := [.int a1_0]) (rest := []) F hK hN hOc hTc (c_X6_keepx_1_2 (eC l G k tC aX aV) (rdD (.inl (0, 400)) (.inl (0, 400)) (.inl (0, 4000)) (.inl (0, 1)) (.inr [26, 27])) (xB 400 T) (x1, x1) (y1, y1) (x3, x3) (y3, y3) (x4, x4) (y4, y4) ([26]) (fun f_ => f_ = Da1) (fun f_ => f_ = Da3) (fun f_ => f_ = Sa1) (fun f_ => f_ = Sa3) (fun f_ => f_ = Qa1) (fun f_ => f_ = Qa3) x2 y2 t kb Da2 Da4 Sa2 Sa4 Qa2 Qa4 h0 a1_0 (List.mem_singleton.mpr hh0) (by omega) (by omega) (by omega) (by omega) (by omega) hDa2 hDa4 hSa2 hSa4 hQa2 hQa4 (by show 0 ≤ x1 ∧ x1 ≤ 12; omega) (by show 0 ≤ y1 ∧ y1 ≤ 14; omega) (by show 0 ≤ x3 ∧ x3 ≤ 12; omega) (by show 0 ≤ y3 ∧ y3 ≤ 14; omega) (by show 0 ≤ x4 ∧ x4 ≤ 12; omega) (by show 0 ≤ y4 ∧ y4 ≤ 14; omega) (by decide) (fun f_ h_ => ivX hDa1 h_) (fun f_ h_ => ivX hDa3 h_) (fun f_ h_ => ivX hSa1 h_) (fun f_ h_ => ivX hSa3 h_) (fun f_ h_ => ivX hQa1 h_) (fun f_ h_ => ivX hQa3 h_)) mv_X6_keep wd_38_20 ⟨Nat.le_of_ble_eq_true rfl, Nat.le_of_ble_eq_true rfl⟩ ⟨Nat.le_of_ble_eq_true rfl, Nat.le_of_ble_eq_true rfl⟩ hC hS (tRecv hK hC (by rw [show eT (eC l G k tC aX aV) h0 = 28 from hh0]; rfl) clX6) rfl hl.1 (Nat.le_of_ble_eq_true rfl) dL_law_559 (fun v0 H1 locs hq hk_ hS => ?_)
      obtain ⟨kb2_0, hkb2_0, D2_0, hD2_0, Kn2_0, hKn2_0, Q2_0, hQ2_0, f0_0, hN_⟩ := hq
      have hM := keptM hdis hM hk_
      have hC : TH (eC l G k tC aX aV) (tbC (dayD (.inl (0, 18))) (dayD (.inl (0, 18))) (riverD (.inl (x1, x1)) (.inl (y1, y1)) (.inl (0, 4)) 31 33 35 39 43 47) (riverD (.inl (x2, x2)) (.inl (y2, y2)) (.inl (0, 4)) 32 34 36 40 44 48) (rcD (.inl (t, t)) (.inr [27]) (.inr [26]) (.inl (kb2_0, kb2_0))) (rdD (.inl (0, 400)) (.inl (0, 400)) (.inl (0, 4000)) (.inl (0, 1)) (.inr [26, 27])) (xB 400 T) A14F A14F A4F A4F A14F A14F (riverD (.inl (x3, x3)) (.inl (y3, y3)) (.inl (0, 4)) 3 8 3 41 45 49) (riverD (.inl (x2, x2)) (.inl (y2, y2)) (.inl (0, 4)) 3 8 3 42 46 50) (xD 12 Da1) (xD 12 Da2) (xD 12 Da3) (xD 12 D2_0) (xD 12 Sa1) (xD 12 Sa2) (xD 12 Sa3) (xD 12 Kn2_0) (xD 48 Qa1) (xD 48 Qa2) (xD 48 Qa3) (xD 48 Q2_0)) H1 := hN_
      refine lv_pop hx hb dL_law_562 rfl ?_
      refine lv_aload_n hx hb dL_law_563 rfl (lv_at hl 1 rfl) ?_
      refine lv_aload_n hx hb dL_law_564 rfl (lv_at hl 3 rfl) ?_
      refine lv_iload_n hx hb dL_law_565 rfl (lv_at hl 0 rfl) ?_
      refine lv_iconst (v := 1) hx hb dL_law_566 (by decide) ?_
      refine lv_iadd hx hb dL_law_567 ?_
      refine va_sld hx hb hX hbl hbA hS (vinT (by rw [hk1]; omega)) dL_law_568 ?_
      refine lv_topi (fun a1_1 ea1_1 => ?_)
      obtain rfl : a1_0 = a1_1 := ea1_0.trans ea1_1.symm
      refine lawVi (E := (eM l G k tM aX aV)) (b := g0) (As := [.int a1_0]) (rest := []) F hK hN hOm hTm (c_X7_keep_1 (eM l G k tM aX aV) (xD 6600 W0) (xD 660 A0) (xD 660 B1) m_second (xB 400 T) (u, u) (0, 18) (((-2147483648), 2147483647)) (t, t) (((-2147483648), 2147483647)) (0, 4000) (((-2147483648), 2147483647)) (((-2147483648), 2147483647)) (0, 1) X0 V0 K0 Z g0 a1_0 (List.mem_singleton.mpr hg0) (by omega) hX0 hV0 hK0 hqX0) mv_X7_keep wd_39_5 ⟨Nat.le_of_ble_eq_true rfl, Nat.le_of_ble_eq_true rfl⟩ ⟨Nat.le_of_ble_eq_true rfl, Nat.le_of_ble_eq_true rfl⟩ hM hS (tRecv hK hM (by rw [show eT (eM l G k tM aX aV) g0 = 24 from hg0]; rfl) clX7) rfl hl.1 (Nat.le_of_ble_eq_true rfl) dL_law_569 (fun v1 H1 locs hq hk_ hS => ?_)
      obtain ⟨V2_1, hV2_1, Kq_1, hKq_1, f1_0, hN_⟩ := hq
      have hC := keptC hdis hC hk_
      have hM : TH (eM l G k tM aX aV) (tbM (mD (.inl (t, t)) (.inl (-2147483648, 2147483647)) (.inl (-2147483648, 2147483647)) (.inl (u, u)) (.inl (0, 18)) (.inl (-2147483648, 2147483647)) (.inl (0, 4000)) (.inl (-2147483648, 2147483647)) (.inl (0, 1))) (xD 660 X0) (xD 6600 W0) (xD 1320 V2_1) (xD 660 A0) (xD 660 B1) m_second (xB 400 T) (xZ 2 Kq_1)) H1 := hN_
      have e2_ := rowT.cp (hTie.2.1 rfl) (by omega) hD2_0.2 hKn2_0.2 hQ2_0.2
      have hTie : ([27] = [26] → rowT x1 Da1 Sa1 Qa1 Z) ∧ ([27] = [27] → rowT x2 Da2 Sa2 Qa2 Z) ∧ gI Kq_1 0 = kb2_0 % 2 ∧ gI Kq_1 1 = kb2_0 / 2 ∧ (kb2_0 % 2 = 1 → rowT x3 Da3 Sa3 Qa3 Y0) ∧ (kb2_0 / 2 = 1 → rowT x2 D2_0 Kn2_0 Q2_0 Z) := by
        have h3_ := hkb2_0.2.2
        have h4_ := hKq_1.2
        refine ⟨hTie.1, hTie.2.1, by omega, by omega, fun h5_ => ?_, fun h5_ => ?_⟩
        · exact hTie.2.2.2.2.1 (by omega)
        · exact e2_
      refine lv_pop hx hb dL_law_572 rfl ?_
      refine lv_goto (tgt := 1529) hx hb dL_law_573 (by decide) ?_
      have hG_ : (([27] = [26] ∧ [26] = [27]) ∨ ([27] = [27] ∧ [26] = [26])) ∧ (0 ≤ kb2_0 ∧ kb2_0 ≤ 3) ∧ (0 ≤ x1 ∧ x1 ≤ 12) ∧ (0 ≤ y1 ∧ y1 ≤ 14) ∧ (0 ≤ x2 ∧ x2 ≤ 12) ∧ (0 ≤ y2 ∧ y2 ≤ 14) ∧ (0 ≤ x3 ∧ x3 ≤ 12) ∧ (0 ≤ y3 ∧ y3 ≤ 14) ∧ (0 ≤ x2 ∧ x2 ≤ 12) ∧ (0 ≤ y2 ∧ y2 ≤ 14) ∧ ivP 12 (-2) 11 Da1 ∧ ivP 12 (-2147483648) 2147483647 Sa1 ∧ ivP 48 (-2147483648) 2147483647 Qa1 ∧ ivP 12 (-2) 11 Da2 ∧ ivP 12 (-2147483648) 2147483647 Sa2 ∧ ivP 48 (-2147483648) 2147483647 Qa2 ∧ ivP 12 (-2) 11 Da3 ∧ ivP 12 (-2147483648) 2147483647 Sa3 ∧ ivP 48 (-2147483648) 2147483647 Qa3 ∧ ivP 12 (-2) 11 D2_0 ∧ ivP 12 (-2147483648) 2147483647 Kn2_0 ∧ ivP 48 (-2147483648) 2147483647 Q2_0 := ⟨(by decide), (by omega), (by omega), (by omega), (by omega), (by omega), (by omega), (by omega), (by omega), (by omega), hDa1, hSa1, hQa1, hDa2, hSa2, hQa2, hDa3, hSa3, hQa3, hD2_0.1, hKn2_0.1, hQ2_0.1⟩
      exact hend t T ([27], [26], kb2_0, x1, y1, x2, y2, x3, y3, x2, y2, Da1, Sa1, Qa1, Da2, Sa2, Qa2, Da3, Sa3, Qa3, D2_0, Kn2_0, Q2_0) _ _ ⟨(by omega), hT8⟩ hG_ hC ⟨X0, W0, V2_1, A0, B1, Kq_1, Z, Y0, Z, u, (by omega), hX0, hW0, hV2_1.1, hA0, hKq_1.1, hqX0, hmW0, (hV2_1.2.2 _ hy0), hV2_1.2.1, hTie, hM⟩ hS
set_option maxHeartbeats 4000000 in
set_option maxRecDepth 100000 in
theorem law_c12 {pg_ : Program} {l : Launch} {ev_ : Env} {s : State} {mi_ : MethodId} {below_ : List Frame} {meth : Method} {cd_ : Code} {H : Heap} {locs : List Loc} {ls : Array Slot} {b L : Nat} {xs : Nat → Int32} {G : va_G} {k : Nat → ClassId} {tC tM aX aV : Nat → Nat} {h0 g0 : Nat} {i : Int32} {t : Int} {T : RwF} {g : Gs} (B0 : LB pg_ s mi_ meth cd_ b L xs l G k tC tM aX aV h0 g0) (hi : 0 ≤ i.toInt ∧ i.toInt + 6 ≤ L) (ht : (0 ≤ t ∧ t ≤ 400) ∧ ivP 400 (-128) 127 T) (hg : Gok g) (hC : Cs (eC l G k tC aX aV) t T g H) (hMs : Ms (eM l G k tM aX aV) t T g H) (hS : va_S (lawA s) s.heap H locs) (hl : lv_has ls 4 [(3, .int i), (2, .ref g0), (1, .ref h0), (0, .ref b)]) (hend : ∀ (t : Int) (T : RwF) (g : Gs) (H : Heap) (locs : List Loc), ((0 ≤ t ∧ t ≤ 400) ∧ ivP 400 (-128) 127 T) → Gok g → Cs (eC l G k tC aX aV) t T g H → Ms (eM l G k tM aX aV) t T g H → va_S (lawA s) s.heap H locs → W pg_ l ev_ room_1 s mi_ #[Value.ref b] below_ meth cd_ H locs 294 18964 (lw_Z below_ #[Value.ref b] s) (F0 mi_ 1529 ls [])) : W pg_ l ev_ room_1 s mi_ #[Value.ref b] below_ meth cd_ H locs 294 18964 (lw_Z below_ #[Value.ref b] s) (F0 mi_ 576 ls []) := by
  obtain ⟨F, hK, hN, hOc, hOm, hX, hbl, hL, hTc, hTm, hdis, hh0, hg0⟩ := id B0
  obtain ⟨hx, hb, hr, hml, hown, hlk, hw, -⟩ := id F
  have hbA : ¬ lawA s b := fun q => absurd q (by unfold lawA; omega)
  obtain ⟨kr, ks, kb, x1, y1, x2, y2, x3, y3, x4, y4, Da1, Sa1, Qa1, Da2, Sa2, Qa2, Da3, Sa3, Qa3, Da4, Sa4, Qa4⟩ := g
  obtain ⟨X0, W0, V0, A0, B1, K0, Z, Y0, Y1, u, hu, hX0, hW0, hV0, hA0, hK0, hqX0, hmW0, hy0, hy1, hTie0, hM⟩ := hMs
  obtain ⟨ht, hT8⟩ := ht
  have hg : ((kr = [26] ∧ ks = [27]) ∨ (kr = [27] ∧ ks = [26])) ∧ (0 ≤ kb ∧ kb ≤ 3) ∧ (0 ≤ x1 ∧ x1 ≤ 12) ∧ (0 ≤ y1 ∧ y1 ≤ 14) ∧ (0 ≤ x2 ∧ x2 ≤ 12) ∧ (0 ≤ y2 ∧ y2 ≤ 14) ∧ (0 ≤ x3 ∧ x3 ≤ 12) ∧ (0 ≤ y3 ∧ y3 ≤ 14) ∧ (0 ≤ x4 ∧ x4 ≤ 12) ∧ (0 ≤ y4 ∧ y4 ≤ 14) ∧ ivP 12 (-2) 11 Da1 ∧ ivP 12 (-2147483648) 2147483647 Sa1 ∧ ivP 48 (-2147483648) 2147483647 Qa1 ∧ ivP 12 (-2) 11 Da2 ∧ ivP 12 (-2147483648) 2147483647 Sa2 ∧ ivP 48 (-2147483648) 2147483647 Qa2 ∧ ivP 12 (-2) 11 Da3 ∧ ivP 12 (-2147483648) 2147483647 Sa3 ∧ ivP 48 (-2147483648) 2147483647 Qa3 ∧ ivP 12 (-2) 11 Da4 ∧ ivP 12 (-2147483648) 2147483647 Sa4 ∧ ivP 48 (-2147483648) 2147483647 Qa4 := hg
  obtain ⟨hkk, hkb, hx1, hy1_, hx2, hy2_, hx3, hy3_, hx4, hy4_, hDa1, hSa1, hQa1, hDa2, hSa2, hQa2, hDa3, hSa3, hQa3, hDa4, hSa4, hQa4⟩ := hg
  have hC : TH (eC l G k tC aX aV) (tbC (dayD (.inl (0, 18))) (dayD (.inl (0, 18))) (riverD (.inl (x1, x1)) (.inl (y1, y1)) (.inl (0, 4)) 31 33 35 39 43 47) (riverD (.inl (x2, x2)) (.inl (y2, y2)) (.inl (0, 4)) 32 34 36 40 44 48) (rcD (.inl (t, t)) (.inr kr) (.inr ks) (.inl (kb, kb))) (rdD (.inl (0, 400)) (.inl (0, 400)) (.inl (0, 4000)) (.inl (0, 1)) (.inr [26, 27])) (xB 400 T) A14F A14F A4F A4F A14F A14F (riverD (.inl (x3, x3)) (.inl (y3, y3)) (.inl (0, 4)) 3 8 3 41 45 49) (riverD (.inl (x4, x4)) (.inl (y4, y4)) (.inl (0, 4)) 3 8 3 42 46 50) (xD 12 Da1) (xD 12 Da2) (xD 12 Da3) (xD 12 Da4) (xD 12 Sa1) (xD 12 Sa2) (xD 12 Sa3) (xD 12 Sa4) (xD 48 Qa1) (xD 48 Qa2) (xD 48 Qa3) (xD 48 Qa4)) H := hC
  have hTie : (kr = [26] → rowT x1 Da1 Sa1 Qa1 Z) ∧ (kr = [27] → rowT x2 Da2 Sa2 Qa2 Z) ∧ gI K0 0 = kb % 2 ∧ gI K0 1 = kb / 2 ∧ (kb % 2 = 1 → rowT x3 Da3 Sa3 Qa3 Y0) ∧ (kb / 2 = 1 → rowT x4 Da4 Sa4 Qa4 Y1) := hTie0
  clear hTie0
  have hk1 : (i + 1).toInt = i.toInt + 1 := by
    have h1 := i_add (x := i) (y := 1) (by rw [show (1 : Int32).toInt = 1 by decide]; omega) (by rw [show (1 : Int32).toInt = 1 by decide]; omega)
    rw [show (1 : Int32).toInt = 1 by decide] at h1
    exact h1
  refine lv_aload_n hx hb dL_law_576 rfl (lv_at hl 2 rfl) ?_
  refine lv_aload_n hx hb dL_law_577 rfl (lv_at hl 3 rfl) ?_
  refine lv_iload_n hx hb dL_law_578 rfl (lv_at hl 0 rfl) ?_
  refine lv_iconst (v := 1) hx hb dL_law_579 (by decide) ?_
  refine lv_iadd hx hb dL_law_580 ?_
  refine va_sld hx hb hX hbl hbA hS (vinT (by rw [hk1]; omega)) dL_law_581 ?_
  refine lv_topi (fun a1_0 ea1_0 => ?_)
  rcases (by omega : (a1_0.toInt < 0 ∨ 1 < a1_0.toInt) ∨ a1_0.toInt = 0 ∨ a1_0.toInt = 1) with hr_ | hr_ | hr_
  · skip
    have hkr : ∀ t ∈ kr, t ∈ [26, 27] := by rcases hkk with ⟨h9_, -⟩ | ⟨h9_, -⟩ <;> rw [h9_] <;> decide
    have hks : ∀ t ∈ ks, t ∈ [26, 27] := by rcases hkk with ⟨-, h9_⟩ | ⟨-, h9_⟩ <;> rw [h9_] <;> decide
    refine lawVi (E := (eC l G k tC aX aV)) (b := h0) (As := [.int a1_0]) (rest := []) F hK hN hOc hTc (c_X6_back_n (eC l G k tC aX aV) (rdD (.inl (0, 400)) (.inl (0, 400)) (.inl (0, 4000)) (.inl (0, 1)) (.inr [26, 27])) (xB 400 T) (kb, kb) (x1, x1) (y1, y1) (x2, x2) (y2, y2) (x3, x3) (y3, y3) (x4, x4) (y4, y4) kr ks (fun f_ => f_ = Da1) (fun f_ => f_ = Da2) (fun f_ => f_ = Da3) (fun f_ => f_ = Da4) (fun f_ => f_ = Sa1) (fun f_ => f_ = Sa2) (fun f_ => f_ = Sa3) (fun f_ => f_ = Sa4) (fun f_ => f_ = Qa1) (fun f_ => f_ = Qa2) (fun f_ => f_ = Qa3) (fun f_ => f_ = Qa4) t h0 a1_0 (List.mem_singleton.mpr hh0) (by omega) (by show 0 ≤ x1 ∧ x1 ≤ 12; omega) (by show 0 ≤ y1 ∧ y1 ≤ 14; omega) (by show 0 ≤ x2 ∧ x2 ≤ 12; omega) (by show 0 ≤ y2 ∧ y2 ≤ 14; omega) (by show 0 ≤ x3 ∧ x3 ≤ 12; omega) (by show 0 ≤ y3 ∧ y3 ≤ 14; omega) (by show 0 ≤ x4 ∧ x4 ≤ 12; omega) (by show 0 ≤ y4 ∧ y4 ≤ 14; omega) hkr hks (fun f_ h_ => ivX hDa1 h_) (fun f_ h_ => ivX hDa2 h_) (fun f_ h_ => ivX hDa3 h_) (fun f_ h_ => ivX hDa4 h_) (fun f_ h_ => ivX hSa1 h_) (fun f_ h_ => ivX hSa2 h_) (fun f_ h_ => ivX hSa3 h_) (fun f_ h_ => ivX hSa4 h_) (fun f_ h_ => ivX hQa1 h_) (fun f_ h_ => ivX hQa2 h_) (fun f_ h_ => ivX hQa3 h_) (fun f_ h_ => ivX hQa4 h_) hr_) mv_X6_back wd_39_9 ⟨Nat.le_of_ble_eq_true rfl, Nat.le_of_ble_eq_true rfl⟩ ⟨Nat.le_of_ble_eq_true rfl, Nat.le_of_ble_eq_true rfl⟩ hC hS (tRecv hK hC (by rw [show eT (eC l G k tC aX aV) h0 = 28 from hh0]; rfl) clX6) rfl hl.1 (Nat.le_of_ble_eq_true rfl) dL_law_582 (fun v0 H1 locs hq hk_ hS => ?_)
    obtain ⟨f0_0, hN_⟩ := hq
    have hM := keptM hdis hM hk_
    have hC : TH (eC l G k tC aX aV) (tbC (dayD (.inl (0, 18))) (dayD (.inl (0, 18))) (riverD (.inl (x1, x1)) (.inl (y1, y1)) (.inl (0, 4)) 31 33 35 39 43 47) (riverD (.inl (x2, x2)) (.inl (y2, y2)) (.inl (0, 4)) 32 34 36 40 44 48) (rcD (.inl (t, t)) (.inr kr) (.inr ks) (.inl (kb, kb))) (rdD (.inl (0, 400)) (.inl (0, 400)) (.inl (0, 4000)) (.inl (0, 1)) (.inr [26, 27])) (xB 400 T) A14F A14F A4F A4F A14F A14F (riverD (.inl (x3, x3)) (.inl (y3, y3)) (.inl (0, 4)) 3 8 3 41 45 49) (riverD (.inl (x4, x4)) (.inl (y4, y4)) (.inl (0, 4)) 3 8 3 42 46 50) (xD 12 Da1) (xD 12 Da2) (xD 12 Da3) (xD 12 Da4) (xD 12 Sa1) (xD 12 Sa2) (xD 12 Sa3) (xD 12 Sa4) (xD 48 Qa1) (xD 48 Qa2) (xD 48 Qa3) (xD 48 Qa4)) H1 := hN_
    refine lv_pop hx hb dL_law_585 rfl ?_
    refine lv_aload_n hx hb dL_law_586 rfl (lv_at hl 1 rfl) ?_
    refine lv_aload_n hx hb dL_law_587 rfl (lv_at hl 3 rfl) ?_
    refine lv_iload_n hx hb dL_law_588 rfl (lv_at hl 0 rfl) ?_
    refine lv_iconst (v := 1) hx hb dL_law_589 (by decide) ?_
    refine lv_iadd hx hb dL_law_590 ?_
    refine va_sld hx hb hX hbl hbA hS (vinT (by rw [hk1]; omega)) dL_law_591 ?_
    refine lv_topi (fun a1_1 ea1_1 => ?_)
    obtain rfl : a1_0 = a1_1 := ea1_0.trans ea1_1.symm
    refine lawVi (E := (eM l G k tM aX aV)) (b := g0) (As := [.int a1_0]) (rest := []) F hK hN hOm hTm (c_X7_back_n (eM l G k tM aX aV) (mD (.inl (t, t)) (.inl ((-2147483648), 2147483647)) (.inl ((-2147483648), 2147483647)) (.inl (u, u)) (.inl (0, 18)) (.inl ((-2147483648), 2147483647)) (.inl (0, 4000)) (.inl ((-2147483648), 2147483647)) (.inl (0, 1))) (xD 660 X0) (xD 6600 W0) (xD 1320 V0) (xD 660 A0) (xD 660 B1) m_second (xB 400 T) (xZ 2 K0) g0 a1_0 (List.mem_singleton.mpr hg0) hr_) mv_X7_back wd_39_13 ⟨Nat.le_of_ble_eq_true rfl, Nat.le_of_ble_eq_true rfl⟩ ⟨Nat.le_of_ble_eq_true rfl, Nat.le_of_ble_eq_true rfl⟩ hM hS (tRecv hK hM (by rw [show eT (eM l G k tM aX aV) g0 = 24 from hg0]; rfl) clX7) rfl hl.1 (Nat.le_of_ble_eq_true rfl) dL_law_592 (fun v1 H1 locs hq hk_ hS => ?_)
    obtain ⟨f1_0, hN_⟩ := hq
    have hC := keptC hdis hC hk_
    have hM : TH (eM l G k tM aX aV) (tbM (mD (.inl (t, t)) (.inl (-2147483648, 2147483647)) (.inl (-2147483648, 2147483647)) (.inl (u, u)) (.inl (0, 18)) (.inl (-2147483648, 2147483647)) (.inl (0, 4000)) (.inl (-2147483648, 2147483647)) (.inl (0, 1))) (xD 660 X0) (xD 6600 W0) (xD 1320 V0) (xD 660 A0) (xD 660 B1) m_second (xB 400 T) (xZ 2 K0)) H1 := hN_
    refine lv_pop hx hb dL_law_595 rfl ?_
    refine lv_goto (tgt := 1529) hx hb dL_law_596 (by decide) ?_
    have hG_ : ((kr = [26] ∧ ks = [27]) ∨ (kr = [27] ∧ ks = [26])) ∧ (0 ≤ kb ∧ kb ≤ 3) ∧ (0 ≤ x1 ∧ x1 ≤ 12) ∧ (0 ≤ y1 ∧ y1 ≤ 14) ∧ (0 ≤ x2 ∧ x2 ≤ 12) ∧ (0 ≤ y2 ∧ y2 ≤ 14) ∧ (0 ≤ x3 ∧ x3 ≤ 12) ∧ (0 ≤ y3 ∧ y3 ≤ 14) ∧ (0 ≤ x4 ∧ x4 ≤ 12) ∧ (0 ≤ y4 ∧ y4 ≤ 14) ∧ ivP 12 (-2) 11 Da1 ∧ ivP 12 (-2147483648) 2147483647 Sa1 ∧ ivP 48 (-2147483648) 2147483647 Qa1 ∧ ivP 12 (-2) 11 Da2 ∧ ivP 12 (-2147483648) 2147483647 Sa2 ∧ ivP 48 (-2147483648) 2147483647 Qa2 ∧ ivP 12 (-2) 11 Da3 ∧ ivP 12 (-2147483648) 2147483647 Sa3 ∧ ivP 48 (-2147483648) 2147483647 Qa3 ∧ ivP 12 (-2) 11 Da4 ∧ ivP 12 (-2147483648) 2147483647 Sa4 ∧ ivP 48 (-2147483648) 2147483647 Qa4 := ⟨hkk, (by omega), (by omega), (by omega), (by omega), (by omega), (by omega), (by omega), (by omega), (by omega), hDa1, hSa1, hQa1, hDa2, hSa2, hQa2, hDa3, hSa3, hQa3, hDa4, hSa4, hQa4⟩
    exact hend t T (kr, ks, kb, x1, y1, x2, y2, x3, y3, x4, y4, Da1, Sa1, Qa1, Da2, Sa2, Qa2, Da3, Sa3, Qa3, Da4, Sa4, Qa4) _ _ ⟨(by omega), hT8⟩ hG_ hC ⟨X0, W0, V0, A0, B1, K0, Z, Y0, Y1, u, (by omega), hX0, hW0, hV0, hA0, hK0, hqX0, hmW0, hy0, hy1, hTie, hM⟩ hS
  · skip
    rcases (by omega : kb % 2 = 0 ∨ kb % 2 = 1) with hbit | hbit
    · skip
      have hkr : ∀ t ∈ kr, t ∈ [26, 27] := by rcases hkk with ⟨h9_, -⟩ | ⟨h9_, -⟩ <;> rw [h9_] <;> decide
      have hks : ∀ t ∈ ks, t ∈ [26, 27] := by rcases hkk with ⟨-, h9_⟩ | ⟨-, h9_⟩ <;> rw [h9_] <;> decide
      refine lawVi (E := (eC l G k tC aX aV)) (b := h0) (As := [.int a1_0]) (rest := []) F hK hN hOc hTc (c_X6_backx_0_no (eC l G k tC aX aV) (rdD (.inl (0, 400)) (.inl (0, 400)) (.inl (0, 4000)) (.inl (0, 1)) (.inr [26, 27])) (xB 400 T) (x1, x1) (y1, y1) (x2, x2) (y2, y2) (x3, x3) (y3, y3) (x4, x4) (y4, y4) kr ks (fun f_ => f_ = Da1) (fun f_ => f_ = Da2) (fun f_ => f_ = Da3) (fun f_ => f_ = Da4) (fun f_ => f_ = Sa1) (fun f_ => f_ = Sa2) (fun f_ => f_ = Sa3) (fun f_ => f_ = Sa4) (fun f_ => f_ = Qa1) (fun f_ => f_ = Qa2) (fun f_ => f_ = Qa3) (fun f_ => f_ = Qa4) t kb h0 a1_0 (List.mem_singleton.mpr hh0) (by omega) (by omega) (by omega) (by show 0 ≤ x1 ∧ x1 ≤ 12; omega) (by show 0 ≤ y1 ∧ y1 ≤ 14; omega) (by show 0 ≤ x2 ∧ x2 ≤ 12; omega) (by show 0 ≤ y2 ∧ y2 ≤ 14; omega) (by show 0 ≤ x3 ∧ x3 ≤ 12; omega) (by show 0 ≤ y3 ∧ y3 ≤ 14; omega) (by show 0 ≤ x4 ∧ x4 ≤ 12; omega) (by show 0 ≤ y4 ∧ y4 ≤ 14; omega) hkr hks (fun f_ h_ => ivX hDa1 h_) (fun f_ h_ => ivX hDa2 h_) (fun f_ h_ => ivX hDa3 h_) (fun f_ h_ => ivX hDa4 h_) (fun f_ h_ => ivX hSa1 h_) (fun f_ h_ => ivX hSa2 h_) (fun f_ h_ => ivX hSa3 h_) (fun f_ h_ => ivX hSa4 h_) (fun f_ h_ => ivX hQa1 h_) (fun f_ h_ => ivX hQa2 h_) (fun f_ h_ => ivX hQa3 h_) (fun f_ h_ => ivX hQa4 h_) (by omega)) mv_X6_back wd_39_9 ⟨Nat.le_of_ble_eq_true rfl, Nat.le_of_ble_eq_true rfl⟩ ⟨Nat.le_of_ble_eq_true rfl, Nat.le_of_ble_eq_true rfl⟩ hC hS (tRecv hK hC (by rw [show eT (eC l G k tC aX aV) h0 = 28 from hh0]; rfl) clX6) rfl hl.1 (Nat.le_of_ble_eq_true rfl) dL_law_582 (fun v0 H1 locs hq hk_ hS => ?_)
      obtain ⟨f0_0, hN_⟩ := hq
      have hM := keptM hdis hM hk_
      have hC : TH (eC l G k tC aX aV) (tbC (dayD (.inl (0, 18))) (dayD (.inl (0, 18))) (riverD (.inl (x1, x1)) (.inl (y1, y1)) (.inl (0, 4)) 31 33 35 39 43 47) (riverD (.inl (x2, x2)) (.inl (y2, y2)) (.inl (0, 4)) 32 34 36 40 44 48) (rcD (.inl (t, t)) (.inr kr) (.inr ks) (.inl (kb, kb))) (rdD (.inl (0, 400)) (.inl (0, 400)) (.inl (0, 4000)) (.inl (0, 1)) (.inr [26, 27])) (xB 400 T) A14F A14F A4F A4F A14F A14F (riverD (.inl (x3, x3)) (.inl (y3, y3)) (.inl (0, 4)) 3 8 3 41 45 49) (riverD (.inl (x4, x4)) (.inl (y4, y4)) (.inl (0, 4)) 3 8 3 42 46 50) (xD 12 Da1) (xD 12 Da2) (xD 12 Da3) (xD 12 Da4) (xD 12 Sa1) (xD 12 Sa2) (xD 12 Sa3) (xD 12 Sa4) (xD 48 Qa1) (xD 48 Qa2) (xD 48 Qa3) (xD 48 Qa4)) H1 := hN_
      refine lv_pop hx hb dL_law_585 rfl ?_
      refine lv_aload_n hx hb dL_law_586 rfl (lv_at hl 1 rfl) ?_
      refine lv_aload_n hx hb dL_law_587 rfl (lv_at hl 3 rfl) ?_
      refine lv_iload_n hx hb dL_law_588 rfl (lv_at hl 0 rfl) ?_
      refine lv_iconst (v := 1) hx hb dL_law_589 (by decide) ?_
      refine lv_iadd hx hb dL_law_590 ?_
      refine va_sld hx hb hX hbl hbA hS (vinT (by rw [hk1]; omega)) dL_law_591 ?_
      refine lv_topi (fun a1_1 ea1_1 => ?_)
      obtain rfl : a1_0 = a1_1 := ea1_0.trans ea1_1.symm
      refine lawVi (E := (eM l G k tM aX aV)) (b := g0) (As := [.int a1_0]) (rest := []) F hK hN hOm hTm (c_X7_back_0_no (eM l G k tM aX aV) (xD 660 X0) (xD 6600 W0) (xD 1320 V0) (xD 660 A0) (xD 660 B1) m_second (xB 400 T) (u, u) (0, 18) (((-2147483648), 2147483647)) (t, t) (((-2147483648), 2147483647)) (0, 4000) (((-2147483648), 2147483647)) (((-2147483648), 2147483647)) (0, 1) K0 g0 a1_0 (List.mem_singleton.mpr hg0) (by omega) hK0 (by omega)) mv_X7_back wd_39_13 ⟨Nat.le_of_ble_eq_true rfl, Nat.le_of_ble_eq_true rfl⟩ ⟨Nat.le_of_ble_eq_true rfl, Nat.le_of_ble_eq_true rfl⟩ hM hS (tRecv hK hM (by rw [show eT (eM l G k tM aX aV) g0 = 24 from hg0]; rfl) clX7) rfl hl.1 (Nat.le_of_ble_eq_true rfl) dL_law_592 (fun v1 H1 locs hq hk_ hS => ?_)
      obtain ⟨f1_0, hN_⟩ := hq
      have hC := keptC hdis hC hk_
      have hM : TH (eM l G k tM aX aV) (tbM (mD (.inl (t, t)) (.inl (-2147483648, 2147483647)) (.inl (-2147483648, 2147483647)) (.inl (u, u)) (.inl (0, 18)) (.inl (-2147483648, 2147483647)) (.inl (0, 4000)) (.inl (-2147483648, 2147483647)) (.inl (0, 1))) (xD 660 X0) (xD 6600 W0) (xD 1320 V0) (xD 660 A0) (xD 660 B1) m_second (xB 400 T) (xZ 2 K0)) H1 := hN_
      refine lv_pop hx hb dL_law_595 rfl ?_
      refine lv_goto (tgt := 1529) hx hb dL_law_596 (by decide) ?_
      have hG_ : ((kr = [26] ∧ ks = [27]) ∨ (kr = [27] ∧ ks = [26])) ∧ (0 ≤ kb ∧ kb ≤ 3) ∧ (0 ≤ x1 ∧ x1 ≤ 12) ∧ (0 ≤ y1 ∧ y1 ≤ 14) ∧ (0 ≤ x2 ∧ x2 ≤ 12) ∧ (0 ≤ y2 ∧ y2 ≤ 14) ∧ (0 ≤ x3 ∧ x3 ≤ 12) ∧ (0 ≤ y3 ∧ y3 ≤ 14) ∧ (0 ≤ x4 ∧ x4 ≤ 12) ∧ (0 ≤ y4 ∧ y4 ≤ 14) ∧ ivP 12 (-2) 11 Da1 ∧ ivP 12 (-2147483648) 2147483647 Sa1 ∧ ivP 48 (-2147483648) 2147483647 Qa1 ∧ ivP 12 (-2) 11 Da2 ∧ ivP 12 (-2147483648) 2147483647 Sa2 ∧ ivP 48 (-2147483648) 2147483647 Qa2 ∧ ivP 12 (-2) 11 Da3 ∧ ivP 12 (-2147483648) 2147483647 Sa3 ∧ ivP 48 (-2147483648) 2147483647 Qa3 ∧ ivP 12 (-2) 11 Da4 ∧ ivP 12 (-2147483648) 2147483647 Sa4 ∧ ivP 48 (-2147483648) 2147483647 Qa4 := ⟨hkk, (by omega), (by omega), (by omega), (by omega), (by omega), (by omega), (by omega), (by omega), (by omega), hDa1, hSa1, hQa1, hDa2, hSa2, hQa2, hDa3, hSa3, hQa3, hDa4, hSa4, hQa4⟩
      exact hend t T (kr, ks, kb, x1, y1, x2, y2, x3, y3, x4, y4, Da1, Sa1, Qa1, Da2, Sa2, Qa2, Da3, Sa3, Qa3, Da4, Sa4, Qa4) _ _ ⟨(by omega), hT8⟩ hG_ hC ⟨X0, W0, V0, A0, B1, K0, Z, Y0, Y1, u, (by omega), hX0, hW0, hV0, hA0, hK0, hqX0, hmW0, hy0, hy1, hTie, hM⟩ hS
    · skip
      rcases hkk with ⟨rfl, rfl⟩ | ⟨rfl, rfl⟩
      · skip
        have hks : ∀ t ∈ ([27] : List Nat), t ∈ [26, 27] := by decide
        refine lawVi (E := (eC l G k tC aX aV)) (b := h0) (As := [.int a1_0]) (rest := []) F hK hN hOc hTc (c_X6_backx_0_1 (eC l G k tC aX aV) (rdD (.inl (0, 400)) (.inl (0, 400)) (.inl (0, 4000)) (.inl (0, 1)) (.inr [26, 27])) (xB 400 T) (x1, x1) (y1, y1) (x2, x2) (y2, y2) (x4, x4) (y4, y4) ([27]) (fun f_ => f_ = Da2) (fun f_ => f_ = Da4) (fun f_ => f_ = Sa2) (fun f_ => f_ = Sa4) (fun f_ => f_ = Qa2) (fun f_ => f_ = Qa4) t kb x3 y3 Da1 Da3 Sa1 Sa3 Qa1 Qa3 h0 a1_0 (List.mem_singleton.mpr hh0) (by omega) (by omega) (by omega) (by omega) (by omega) hDa1 hDa3 hSa1 hSa3 hQa1 hQa3 (by show 0 ≤ x1 ∧ x1 ≤ 12; omega) (by show 0 ≤ y1 ∧ y1 ≤ 14; omega) (by show 0 ≤ x2 ∧ x2 ≤ 12; omega) (by show 0 ≤ y2 ∧ y2 ≤ 14; omega) (by show 0 ≤ x4 ∧ x4 ≤ 12; omega) (by show 0 ≤ y4 ∧ y4 ≤ 14; omega) (by decide) (fun f_ h_ => ivX hDa2 h_) (fun f_ h_ => ivX hDa4 h_) (fun f_ h_ => ivX hSa2 h_) (fun f_ h_ => ivX hSa4 h_) (fun f_ h_ => ivX hQa2 h_) (fun f_ h_ => ivX hQa4 h_) (by omega)) mv_X6_back wd_39_9 ⟨Nat.le_of_ble_eq_true rfl, Nat.le_of_ble_eq_true rfl⟩ ⟨Nat.le_of_ble_eq_true rfl, Nat.le_of_ble_eq_true rfl⟩ hC hS (tRecv hK hC (by rw [show eT (eC l G k tC aX aV) h0 = 28 from hh0]; rfl) clX6) rfl hl.1 (Nat.le_of_ble_eq_true rfl) dL_law_582 (fun v0 H1 locs hq hk_ hS => ?_)
        obtain ⟨D2_0, hD2_0, Kn2_0, hKn2_0, Q2_0, hQ2_0, f0_0, hN_⟩ := hq
        have hM := keptM hdis hM hk_
        have hC : TH (eC l G k tC aX aV) (tbC (dayD (.inl (0, 18))) (dayD (.inl (0, 18))) (riverD (.inl (x3, x3)) (.inl (y3, y3)) (.inl (0, 4)) 31 33 35 39 43 47) (riverD (.inl (x2, x2)) (.inl (y2, y2)) (.inl (0, 4)) 32 34 36 40 44 48) (rcD (.inl (t, t)) (.inr [26]) (.inr [27]) (.inl (kb, kb))) (rdD (.inl (0, 400)) (.inl (0, 400)) (.inl (0, 4000)) (.inl (0, 1)) (.inr [26, 27])) (xB 400 T) A14F A14F A4F A4F A14F A14F (riverD (.inl (x3, x3)) (.inl (y3, y3)) (.inl (0, 4)) 3 8 3 41 45 49) (riverD (.inl (x4, x4)) (.inl (y4, y4)) (.inl (0, 4)) 3 8 3 42 46 50) (xD 12 D2_0) (xD 12 Da2) (xD 12 Da3) (xD 12 Da4) (xD 12 Kn2_0) (xD 12 Sa2) (xD 12 Sa3) (xD 12 Sa4) (xD 48 Q2_0) (xD 48 Qa2) (xD 48 Qa3) (xD 48 Qa4)) H1 := hN_
        refine lv_pop hx hb dL_law_585 rfl ?_
        refine lv_aload_n hx hb dL_law_586 rfl (lv_at hl 1 rfl) ?_
        refine lv_aload_n hx hb dL_law_587 rfl (lv_at hl 3 rfl) ?_
        refine lv_iload_n hx hb dL_law_588 rfl (lv_at hl 0 rfl) ?_
        refine lv_iconst (v := 1) hx hb dL_law_589 (by decide) ?_
        refine lv_iadd hx hb dL_law_590 ?_
        refine va_sld hx hb hX hbl hbA hS (vinT (by rw [hk1]; omega)) dL_law_591 ?_
        refine lv_topi (fun a1_1 ea1_1 => ?_)
        obtain rfl : a1_0 = a1_1 := ea1_0.trans ea1_1.symm
        refine lawVi (E := (eM l G k tM aX aV)) (b := g0) (As := [.int a1_0]) (rest := []) F hK hN hOm hTm (c_X7_back_0 (eM l G k tM aX aV) (xD 6600 W0) (xD 660 A0) (xD 660 B1) m_second (xB 400 T) (0, 18) (((-2147483648), 2147483647)) (t, t) (((-2147483648), 2147483647)) (0, 4000) (((-2147483648), 2147483647)) (((-2147483648), 2147483647)) (0, 1) u X0 V0 K0 Y0 g0 a1_0 (List.mem_singleton.mpr hg0) (by omega) (by omega) hX0 hV0 hK0 (by omega) hy0) mv_X7_back wd_39_13 ⟨Nat.le_of_ble_eq_true rfl, Nat.le_of_ble_eq_true rfl⟩ ⟨Nat.le_of_ble_eq_true rfl, Nat.le_of_ble_eq_true rfl⟩ hM hS (tRecv hK hM (by rw [show eT (eM l G k tM aX aV) g0 = 24 from hg0]; rfl) clX7) rfl hl.1 (Nat.le_of_ble_eq_true rfl) dL_law_592 (fun v1 H1 locs hq hk_ hS => ?_)
        obtain ⟨u2_1, hu2_1, X2_1, hX2_1, f1_0, hN_⟩ := hq
        have hC := keptC hdis hC hk_
        have hM : TH (eM l G k tM aX aV) (tbM (mD (.inl (t, t)) (.inl (-2147483648, 2147483647)) (.inl (-2147483648, 2147483647)) (.inl (u2_1, u2_1)) (.inl (0, 18)) (.inl (-2147483648, 2147483647)) (.inl (0, 4000)) (.inl (-2147483648, 2147483647)) (.inl (0, 1))) (xD 660 X2_1) (xD 6600 W0) (xD 1320 V0) (xD 660 A0) (xD 660 B1) m_second (xB 400 T) (xZ 2 K0)) H1 := hN_
        have e2_ := rowT.cp (hTie.2.2.2.2.1 (by omega)) (by omega) hD2_0.2 hKn2_0.2 hQ2_0.2
        have hTie : ([26] = [26] → rowT x3 D2_0 Kn2_0 Q2_0 Y0) ∧ ([26] = [27] → rowT x2 Da2 Sa2 Qa2 Y0) ∧ gI K0 0 = kb % 2 ∧ gI K0 1 = kb / 2 ∧ (kb % 2 = 1 → rowT x3 Da3 Sa3 Qa3 Y0) ∧ (kb / 2 = 1 → rowT x4 Da4 Sa4 Qa4 Y1) := ⟨fun _ => e2_, fun h_ => absurd h_ (by decide), hTie.2.2⟩
        refine lv_pop hx hb dL_law_595 rfl ?_
        refine lv_goto (tgt := 1529) hx hb dL_law_596 (by decide) ?_
        have hG_ : (([26] = [26] ∧ [27] = [27]) ∨ ([26] = [27] ∧ [27] = [26])) ∧ (0 ≤ kb ∧ kb ≤ 3) ∧ (0 ≤ x3 ∧ x3 ≤ 12) ∧ (0 ≤ y3 ∧ y3 ≤ 14) ∧ (0 ≤ x2 ∧ x2 ≤ 12) ∧ (0 ≤ y2 ∧ y2 ≤ 14) ∧ (0 ≤ x3 ∧ x3 ≤ 12) ∧ (0 ≤ y3 ∧ y3 ≤ 14) ∧ (0 ≤ x4 ∧ x4 ≤ 12) ∧ (0 ≤ y4 ∧ y4 ≤ 14) ∧ ivP 12 (-2) 11 D2_0 ∧ ivP 12 (-2147483648) 2147483647 Kn2_0 ∧ ivP 48 (-2147483648) 2147483647 Q2_0 ∧ ivP 12 (-2) 11 Da2 ∧ ivP 12 (-2147483648) 2147483647 Sa2 ∧ ivP 48 (-2147483648) 2147483647 Qa2 ∧ ivP 12 (-2) 11 Da3 ∧ ivP 12 (-2147483648) 2147483647 Sa3 ∧ ivP 48 (-2147483648) 2147483647 Qa3 ∧ ivP 12 (-2) 11 Da4 ∧ ivP 12 (-2147483648) 2147483647 Sa4 ∧ ivP 48 (-2147483648) 2147483647 Qa4 := ⟨(by decide), (by omega), (by omega), (by omega), (by omega), (by omega), (by omega), (by omega), (by omega), (by omega), hD2_0.1, hKn2_0.1, hQ2_0.1, hDa2, hSa2, hQa2, hDa3, hSa3, hQa3, hDa4, hSa4, hQa4⟩
        exact hend t T ([26], [27], kb, x3, y3, x2, y2, x3, y3, x4, y4, D2_0, Kn2_0, Q2_0, Da2, Sa2, Qa2, Da3, Sa3, Qa3, Da4, Sa4, Qa4) _ _ ⟨(by omega), hT8⟩ hG_ hC ⟨X2_1, W0, V0, A0, B1, K0, Y0, Y0, Y1, u2_1, (by omega), hX2_1.1, hW0, hV0, hA0, hK0, hX2_1.2, (fun r_ h_ => absurd h_ (by omega)), hy0, hy1, hTie, hM⟩ hS
      · skip
        have hks : ∀ t ∈ ([26] : List Nat), t ∈ [26, 27] := by decide
        refine lawVi (E := (eC l G k tC aX aV)) (b := h0) (As := [.int a1_0]) (rest := []) F hK hN hOc hTc (c_X6_backx_0_2 (eC l G k tC aX aV) (rdD (.inl (0, 400)) (.inl (0, 400)) (.inl (0, 4000)) (.inl (0, 1)) (.inr [26, 27])) (xB 400 T) (x1, x1) (y1, y1) (x2, x2) (y2, y2) (x4, x4) (y4, y4) ([26]) (fun f_ => f_ = Da1) (fun f_ => f_ = Da4) (fun f_ => f_ = Sa1) (fun f_ => f_ = Sa4) (fun f_ => f_ = Qa1) (fun f_ => f_ = Qa4) t kb x3 y3 Da2 Da3 Sa2 Sa3 Qa2 Qa3 h0 a1_0 (List.mem_singleton.mpr hh0) (by omega) (by omega) (by omega) (by omega) (by omega) hDa2 hDa3 hSa2 hSa3 hQa2 hQa3 (by show 0 ≤ x1 ∧ x1 ≤ 12; omega) (by show 0 ≤ y1 ∧ y1 ≤ 14; omega) (by show 0 ≤ x2 ∧ x2 ≤ 12; omega) (by show 0 ≤ y2 ∧ y2 ≤ 14; omega) (by show 0 ≤ x4 ∧ x4 ≤ 12; omega) (by show 0 ≤ y4 ∧ y4 ≤ 14; omega) (by decide) (fun f_ h_ => ivX hDa1 h_) (fun f_ h_ => ivX hDa4 h_) (fun f_ h_ => ivX hSa1 h_) (fun f_ h_ => ivX hSa4 h_) (fun f_ h_ => ivX hQa1 h_) (fun f_ h_ => ivX hQa4 h_) (by omega)) mv_X6_back wd_39_9 ⟨Nat.le_of_ble_eq_true rfl, Nat.le_of_ble_eq_true rfl⟩ ⟨Nat.le_of_ble_eq_true rfl, Nat.le_of_ble_eq_true rfl⟩ hC hS (tRecv hK hC (by rw [show eT (eC l G k tC aX aV) h0 = 28 from hh0]; rfl) clX6) rfl hl.1 (Nat.le_of_ble_eq_true rfl) dL_law_582 (fun v0 H1 locs hq hk_ hS => ?_)
        obtain ⟨D2_0, hD2_0, Kn2_0, hKn2_0, Q2_0, hQ2_0, f0_0, hN_⟩ := hq
        have hM := keptM hdis hM hk_
        have hC : TH (eC l G k tC aX aV) (tbC (dayD (.inl (0, 18))) (dayD (.inl (0, 18))) (riverD (.inl (x1, x1)) (.inl (y1, y1)) (.inl (0, 4)) 31 33 35 39 43 47) (riverD (.inl (x3, x3)) (.inl (y3, y3)) (.inl (0, 4)) 32 34 36 40 44 48) (rcD (.inl (t, t)) (.inr [27]) (.inr [26]) (.inl (kb, kb))) (rdD (.inl (0, 400)) (.inl (0, 400)) (.inl (0, 4000)) (.inl (0, 1)) (.inr [26, 27])) (xB 400 T) A14F A14F A4F A4F A14F A14F (riverD (.inl (x3, x3)) (.inl (y3, y3)) (.inl (0, 4)) 3 8 3 41 45 49) (riverD (.inl (x4, x4)) (.inl (y4, y4)) (.inl (0, 4)) 3 8 3 42 46 50) (xD 12 Da1) (xD 12 D2_0) (xD 12 Da3) (xD 12 Da4) (xD 12 Sa1) (xD 12 Kn2_0) (xD 12 Sa3) (xD 12 Sa4) (xD 48 Qa1) (xD 48 Q2_0) (xD 48 Qa3) (xD 48 Qa4)) H1 := hN_
        refine lv_pop hx hb dL_law_585 rfl ?_
        refine lv_aload_n hx hb dL_law_586 rfl (lv_at hl 1 rfl) ?_
        refine lv_aload_n hx hb dL_law_587 rfl (lv_at hl 3 rfl) ?_
        refine lv_iload_n hx hb dL_law_588 rfl (lv_at hl 0 rfl) ?_
        refine lv_iconst (v := 1) hx hb dL_law_589 (by decide) ?_
        refine lv_iadd hx hb dL_law_590 ?_
        refine va_sld hx hb hX hbl hbA hS (vinT (by rw [hk1]; omega)) dL_law_591 ?_
        refine lv_topi (fun a1_1 ea1_1 => ?_)
        obtain rfl : a1_0 = a1_1 := ea1_0.trans ea1_1.symm
        refine lawVi (E := (eM l G k tM aX aV)) (b := g0) (As := [.int a1_0]) (rest := []) F hK hN hOm hTm (c_X7_back_0 (eM l G k tM aX aV) (xD 6600 W0) (xD 660 A0) (xD 660 B1) m_second (xB 400 T) (0, 18) (((-2147483648), 2147483647)) (t, t) (((-2147483648), 2147483647)) (0, 4000) (((-2147483648), 2147483647)) (((-2147483648), 2147483647)) (0, 1) u X0 V0 K0 Y0 g0 a1_0 (List.mem_singleton.mpr hg0) (by omega) (by omega) hX0 hV0 hK0 (by omega) hy0) mv_X7_back wd_39_13 ⟨Nat.le_of_ble_eq_true rfl, Nat.le_of_ble_eq_true rfl⟩ ⟨Nat.le_of_ble_eq_true rfl, Nat.le_of_ble_eq_true rfl⟩ hM hS (tRecv hK hM (by rw [show eT (eM l G k tM aX aV) g0 = 24 from hg0]; rfl) clX7) rfl hl.1 (Nat.le_of_ble_eq_true rfl) dL_law_592 (fun v1 H1 locs hq hk_ hS => ?_)
        obtain ⟨u2_1, hu2_1, X2_1, hX2_1, f1_0, hN_⟩ := hq
        have hC := keptC hdis hC hk_
        have hM : TH (eM l G k tM aX aV) (tbM (mD (.inl (t, t)) (.inl (-2147483648, 2147483647)) (.inl (-2147483648, 2147483647)) (.inl (u2_1, u2_1)) (.inl (0, 18)) (.inl (-2147483648, 2147483647)) (.inl (0, 4000)) (.inl (-2147483648, 2147483647)) (.inl (0, 1))) (xD 660 X2_1) (xD 6600 W0) (xD 1320 V0) (xD 660 A0) (xD 660 B1) m_second (xB 400 T) (xZ 2 K0)) H1 := hN_
        have e2_ := rowT.cp (hTie.2.2.2.2.1 (by omega)) (by omega) hD2_0.2 hKn2_0.2 hQ2_0.2
        have hTie : ([27] = [26] → rowT x1 Da1 Sa1 Qa1 Y0) ∧ ([27] = [27] → rowT x3 D2_0 Kn2_0 Q2_0 Y0) ∧ gI K0 0 = kb % 2 ∧ gI K0 1 = kb / 2 ∧ (kb % 2 = 1 → rowT x3 Da3 Sa3 Qa3 Y0) ∧ (kb / 2 = 1 → rowT x4 Da4 Sa4 Qa4 Y1) := ⟨fun h_ => absurd h_ (by decide), fun _ => e2_, hTie.2.2⟩
        refine lv_pop hx hb dL_law_595 rfl ?_
        refine lv_goto (tgt := 1529) hx hb dL_law_596 (by decide) ?_
        have hG_ : (([27] = [26] ∧ [26] = [27]) ∨ ([27] = [27] ∧ [26] = [26])) ∧ (0 ≤ kb ∧ kb ≤ 3) ∧ (0 ≤ x1 ∧ x1 ≤ 12) ∧ (0 ≤ y1 ∧ y1 ≤ 14) ∧ (0 ≤ x3 ∧ x3 ≤ 12) ∧ (0 ≤ y3 ∧ y3 ≤ 14) ∧ (0 ≤ x3 ∧ x3 ≤ 12) ∧ (0 ≤ y3 ∧ y3 ≤ 14) ∧ (0 ≤ x4 ∧ x4 ≤ 12) ∧ (0 ≤ y4 ∧ y4 ≤ 14) ∧ ivP 12 (-2) 11 Da1 ∧ ivP 12 (-2147483648) 2147483647 Sa1 ∧ ivP 48 (-2147483648) 2147483647 Qa1 ∧ ivP 12 (-2) 11 D2_0 ∧ ivP 12 (-2147483648) 2147483647 Kn2_0 ∧ ivP 48 (-2147483648) 2147483647 Q2_0 ∧ ivP 12 (-2) 11 Da3 ∧ ivP 12 (-2147483648) 2147483647 Sa3 ∧ ivP 48 (-2147483648) 2147483647 Qa3 ∧ ivP 12 (-2) 11 Da4 ∧ ivP 12 (-2147483648) 2147483647 Sa4 ∧ ivP 48 (-2147483648) 2147483647 Qa4 := ⟨(by decide), (by omega), (by omega), (by omega), (by omega), (by omega), (by omega), (by omega), (by omega), (by omega), hDa1, hSa1, hQa1, hD2_0.1, hKn2_0.1, hQ2_0.1, hDa3, hSa3, hQa3, hDa4, hSa4, hQa4⟩
        exact hend t T ([27], [26], kb, x1, y1, x3, y3, x3, y3, x4, y4, Da1, Sa1, Qa1, D2_0, Kn2_0, Q2_0, Da3, Sa3, Qa3, Da4, Sa4, Qa4) _ _ ⟨(by omega), hT8⟩ hG_ hC ⟨X2_1, W0, V0, A0, B1, K0, Y0, Y0, Y1, u2_1, (by omega), hX2_1.1, hW0, hV0, hA0, hK0, hX2_1.2, (fun r_ h_ => absurd h_ (by omega)), hy0, hy1, hTie, hM⟩ hS
  · skip
    rcases (by omega : kb / 2 = 0 ∨ kb / 2 = 1) with hbit | hbit
    · skip
      have hkr : ∀ t ∈ kr, t ∈ [26, 27] := by rcases hkk with ⟨h9_, -⟩ | ⟨h9_, -⟩ <;> rw [h9_] <;> decide
      have hks : ∀ t ∈ ks, t ∈ [26, 27] := by rcases hkk with ⟨-, h9_⟩ | ⟨-, h9_⟩ <;> rw [h9_] <;> decide
      refine lawVi (E := (eC l G k tC aX aV)) (b := h0) (As := [.int a1_0]) (rest := []) F hK hN hOc hTc (c_X6_backx_1_no (eC l G k tC aX aV) (rdD (.inl (0, 400)) (.inl (0, 400)) (.inl (0, 4000)) (.inl (0, 1)) (.inr [26, 27])) (xB 400 T) (x1, x1) (y1, y1) (x2, x2) (y2, y2) (x3, x3) (y3, y3) (x4, x4) (y4, y4) kr ks (fun f_ => f_ = Da1) (fun f_ => f_ = Da2) (fun f_ => f_ = Da3) (fun f_ => f_ = Da4) (fun f_ => f_ = Sa1) (fun f_ => f_ = Sa2) (fun f_ => f_ = Sa3) (fun f_ => f_ = Sa4) (fun f_ => f_ = Qa1) (fun f_ => f_ = Qa2) (fun f_ => f_ = Qa3) (fun f_ => f_ = Qa4) t kb h0 a1_0 (List.mem_singleton.mpr hh0) (by omega) (by omega) (by omega) (by show 0 ≤ x1 ∧ x1 ≤ 12; omega) (by show 0 ≤ y1 ∧ y1 ≤ 14; omega) (by show 0 ≤ x2 ∧ x2 ≤ 12; omega) (by show 0 ≤ y2 ∧ y2 ≤ 14; omega) (by show 0 ≤ x3 ∧ x3 ≤ 12; omega) (by show 0 ≤ y3 ∧ y3 ≤ 14; omega) (by show 0 ≤ x4 ∧ x4 ≤ 12; omega) (by show 0 ≤ y4 ∧ y4 ≤ 14; omega) hkr hks (fun f_ h_ => ivX hDa1 h_) (fun f_ h_ => ivX hDa2 h_) (fun f_ h_ => ivX hDa3 h_) (fun f_ h_ => ivX hDa4 h_) (fun f_ h_ => ivX hSa1 h_) (fun f_ h_ => ivX hSa2 h_) (fun f_ h_ => ivX hSa3 h_) (fun f_ h_ => ivX hSa4 h_) (fun f_ h_ => ivX hQa1 h_) (fun f_ h_ => ivX hQa2 h_) (fun f_ h_ => ivX hQa3 h_) (fun f_ h_ => ivX hQa4 h_) (by omega)) mv_X6_back wd_39_9 ⟨Nat.le_of_ble_eq_true rfl, Nat.le_of_ble_eq_true rfl⟩ ⟨Nat.le_of_ble_eq_true rfl, Nat.le_of_ble_eq_true rfl⟩ hC hS (tRecv hK hC (by rw [show eT (eC l G k tC aX aV) h0 = 28 from hh0]; rfl) clX6) rfl hl.1 (Nat.le_of_ble_eq_true rfl) dL_law_582 (fun v0 H1 locs hq hk_ hS => ?_)
      obtain ⟨f0_0, hN_⟩ := hq
      have hM := keptM hdis hM hk_
      have hC : TH (eC l G k tC aX aV) (tbC (dayD (.inl (0, 18))) (dayD (.inl (0, 18))) (riverD (.inl (x1, x1)) (.inl (y1, y1)) (.inl (0, 4)) 31 33 35 39 43 47) (riverD (.inl (x2, x2)) (.inl (y2, y2)) (.inl (0, 4)) 32 34 36 40 44 48) (rcD (.inl (t, t)) (.inr kr) (.inr ks) (.inl (kb, kb))) (rdD (.inl (0, 400)) (.inl (0, 400)) (.inl (0, 4000)) (.inl (0, 1)) (.inr [26, 27])) (xB 400 T) A14F A14F A4F A4F A14F A14F (riverD (.inl (x3, x3)) (.inl (y3, y3)) (.inl (0, 4)) 3 8 3 41 45 49) (riverD (.inl (x4, x4)) (.inl (y4, y4)) (.inl (0, 4)) 3 8 3 42 46 50) (xD 12 Da1) (xD 12 Da2) (xD 12 Da3) (xD 12 Da4) (xD 12 Sa1) (xD 12 Sa2) (xD 12 Sa3) (xD 12 Sa4) (xD 48 Qa1) (xD 48 Qa2) (xD 48 Qa3) (xD 48 Qa4)) H1 := hN_
      refine lv_pop hx hb dL_law_585 rfl ?_
      refine lv_aload_n hx hb dL_law_586 rfl (lv_at hl 1 rfl) ?_
      refine lv_aload_n hx hb dL_law_587 rfl (lv_at hl 3 rfl) ?_
      refine lv_iload_n hx hb dL_law_588 rfl (lv_at hl 0 rfl) ?_
      refine lv_iconst (v := 1) hx hb dL_law_589 (by decide) ?_
      refine lv_iadd hx hb dL_law_590 ?_
      refine va_sld hx hb hX hbl hbA hS (vinT (by rw [hk1]; omega)) dL_law_591 ?_
      refine lv_topi (fun a1_1 ea1_1 => ?_)
      obtain rfl : a1_0 = a1_1 := ea1_0.trans ea1_1.symm
      refine lawVi (E := (eM l G k tM aX aV)) (b := g0) (As := [.int a1_0]) (rest := []) F hK hN hOm hTm (c_X7_back_1_no (eM l G k tM aX aV) (xD 660 X0) (xD 6600 W0) (xD 1320 V0) (xD 660 A0) (xD 660 B1) m_second (xB 400 T) (u, u) (0, 18) (((-2147483648), 2147483647)) (t, t) (((-2147483648), 2147483647)) (0, 4000) (((-2147483648), 2147483647)) (((-2147483648), 2147483647)) (0, 1) K0 g0 a1_0 (List.mem_singleton.mpr hg0) (by omega) hK0 (by omega)) mv_X7_back wd_39_13 ⟨Nat.le_of_ble_eq_true rfl, Nat.le_of_ble_eq_true rfl⟩ ⟨Nat.le_of_ble_eq_true rfl, Nat.le_of_ble_eq_true rfl⟩ hM hS (tRecv hK hM (by rw [show eT (eM l G k tM aX aV) g0 = 24 from hg0]; rfl) clX7) rfl hl.1 (Nat.le_of_ble_eq_true rfl) dL_law_592 (fun v1 H1 locs hq hk_ hS => ?_)
      obtain ⟨f1_0, hN_⟩ := hq
      have hC := keptC hdis hC hk_
      have hM : TH (eM l G k tM aX aV) (tbM (mD (.inl (t, t)) (.inl (-2147483648, 2147483647)) (.inl (-2147483648, 2147483647)) (.inl (u, u)) (.inl (0, 18)) (.inl (-2147483648, 2147483647)) (.inl (0, 4000)) (.inl (-2147483648, 2147483647)) (.inl (0, 1))) (xD 660 X0) (xD 6600 W0) (xD 1320 V0) (xD 660 A0) (xD 660 B1) m_second (xB 400 T) (xZ 2 K0)) H1 := hN_
      refine lv_pop hx hb dL_law_595 rfl ?_
      refine lv_goto (tgt := 1529) hx hb dL_law_596 (by decide) ?_
      have hG_ : ((kr = [26] ∧ ks = [27]) ∨ (kr = [27] ∧ ks = [26])) ∧ (0 ≤ kb ∧ kb ≤ 3) ∧ (0 ≤ x1 ∧ x1 ≤ 12) ∧ (0 ≤ y1 ∧ y1 ≤ 14) ∧ (0 ≤ x2 ∧ x2 ≤ 12) ∧ (0 ≤ y2 ∧ y2 ≤ 14) ∧ (0 ≤ x3 ∧ x3 ≤ 12) ∧ (0 ≤ y3 ∧ y3 ≤ 14) ∧ (0 ≤ x4 ∧ x4 ≤ 12) ∧ (0 ≤ y4 ∧ y4 ≤ 14) ∧ ivP 12 (-2) 11 Da1 ∧ ivP 12 (-2147483648) 2147483647 Sa1 ∧ ivP 48 (-2147483648) 2147483647 Qa1 ∧ ivP 12 (-2) 11 Da2 ∧ ivP 12 (-2147483648) 2147483647 Sa2 ∧ ivP 48 (-2147483648) 2147483647 Qa2 ∧ ivP 12 (-2) 11 Da3 ∧ ivP 12 (-2147483648) 2147483647 Sa3 ∧ ivP 48 (-2147483648) 2147483647 Qa3 ∧ ivP 12 (-2) 11 Da4 ∧ ivP 12 (-2147483648) 2147483647 Sa4 ∧ ivP 48 (-2147483648) 2147483647 Qa4 := ⟨hkk, (by omega), (by omega), (by omega), (by omega), (by omega), (by omega), (by omega), (by omega), (by omega), hDa1, hSa1, hQa1, hDa2, hSa2, hQa2, hDa3, hSa3, hQa3, hDa4, hSa4, hQa4⟩
      exact hend t T (kr, ks, kb, x1, y1, x2, y2, x3, y3, x4, y4, Da1, Sa1, Qa1, Da2, Sa2, Qa2, Da3, Sa3, Qa3, Da4, Sa4, Qa4) _ _ ⟨(by omega), hT8⟩ hG_ hC ⟨X0, W0, V0, A0, B1, K0, Z, Y0, Y1, u, (by omega), hX0, hW0, hV0, hA0, hK0, hqX0, hmW0, hy0, hy1, hTie, hM⟩ hS
    · skip
      rcases hkk with ⟨rfl, rfl⟩ | ⟨rfl, rfl⟩
      · skip
        have hks : ∀ t ∈ ([27] : List Nat), t ∈ [26, 27] := by decide
        refine lawVi (E := (eC l G k tC aX aV)) (b := h0) (As := [.int a1_0]) (rest := []) F hK hN hOc hTc (c_X6_backx_1_1 (eC l G k tC aX aV) (rdD (.inl (0, 400)) (.inl (0, 400)) (.inl (0, 4000)) (.inl (0, 1)) (.inr [26, 27])) (xB 400 T) (x1, x1) (y1, y1) (x2, x2) (y2, y2) (x3, x3) (y3, y3) ([27]) (fun f_ => f_ = Da2) (fun f_ => f_ = Da3) (fun f_ => f_ = Sa2) (fun f_ => f_ = Sa3) (fun f_ => f_ = Qa2) (fun f_ => f_ = Qa3) t kb x4 y4 Da1 Da4 Sa1 Sa4 Qa1 Qa4 h0 a1_0 (List.mem_singleton.mpr hh0) (by omega) (by omega) (by omega) (by omega) (by omega) hDa1 hDa4 hSa1 hSa4 hQa1 hQa4 (by show 0 ≤ x1 ∧ x1 ≤ 12; omega) (by show 0 ≤ y1 ∧ y1 ≤ 14; omega) (by show 0 ≤ x2 ∧ x2 ≤ 12; omega) (by show 0 ≤ y2 ∧ y2 ≤ 14; omega) (by show 0 ≤ x3 ∧ x3 ≤ 12; omega) (by show 0 ≤ y3 ∧ y3 ≤ 14; omega) (by decide) (fun f_ h_ => ivX hDa2 h_) (fun f_ h_ => ivX hDa3 h_) (fun f_ h_ => ivX hSa2 h_) (fun f_ h_ => ivX hSa3 h_) (fun f_ h_ => ivX hQa2 h_) (fun f_ h_ => ivX hQa3 h_) (by omega)) mv_X6_back wd_39_9 ⟨Nat.le_of_ble_eq_true rfl, Nat.le_of_ble_eq_true rfl⟩ ⟨Nat.le_of_ble_eq_true rfl, Nat.le_of_ble_eq_true rfl⟩ hC hS (tRecv hK hC (by rw [show eT (eC l G k tC aX aV) h0 = 28 from hh0]; rfl) clX6) rfl hl.1 (Nat.le_of_ble_eq_true rfl) dL_law_582 (fun v0 H1 locs hq hk_ hS => ?_)
        obtain ⟨D2_0, hD2_0, Kn2_0, hKn2_0, Q2_0, hQ2_0, f0_0, hN_⟩ := hq
        have hM := keptM hdis hM hk_
        have hC : TH (eC l G k tC aX aV) (tbC (dayD (.inl (0, 18))) (dayD (.inl (0, 18))) (riverD (.inl (x4, x4)) (.inl (y4, y4)) (.inl (0, 4)) 31 33 35 39 43 47) (riverD (.inl (x2, x2)) (.inl (y2, y2)) (.inl (0, 4)) 32 34 36 40 44 48) (rcD (.inl (t, t)) (.inr [26]) (.inr [27]) (.inl (kb, kb))) (rdD (.inl (0, 400)) (.inl (0, 400)) (.inl (0, 4000)) (.inl (0, 1)) (.inr [26, 27])) (xB 400 T) A14F A14F A4F A4F A14F A14F (riverD (.inl (x3, x3)) (.inl (y3, y3)) (.inl (0, 4)) 3 8 3 41 45 49) (riverD (.inl (x4, x4)) (.inl (y4, y4)) (.inl (0, 4)) 3 8 3 42 46 50) (xD 12 D2_0) (xD 12 Da2) (xD 12 Da3) (xD 12 Da4) (xD 12 Kn2_0) (xD 12 Sa2) (xD 12 Sa3) (xD 12 Sa4) (xD 48 Q2_0) (xD 48 Qa2) (xD 48 Qa3) (xD 48 Qa4)) H1 := hN_
        refine lv_pop hx hb dL_law_585 rfl ?_
        refine lv_aload_n hx hb dL_law_586 rfl (lv_at hl 1 rfl) ?_
        refine lv_aload_n hx hb dL_law_587 rfl (lv_at hl 3 rfl) ?_
        refine lv_iload_n hx hb dL_law_588 rfl (lv_at hl 0 rfl) ?_
        refine lv_iconst (v := 1) hx hb dL_law_589 (by decide) ?_
        refine lv_iadd hx hb dL_law_590 ?_
        refine va_sld hx hb hX hbl hbA hS (vinT (by rw [hk1]; omega)) dL_law_591 ?_
        refine lv_topi (fun a1_1 ea1_1 => ?_)
        obtain rfl : a1_0 = a1_1 := ea1_0.trans ea1_1.symm
        refine lawVi (E := (eM l G k tM aX aV)) (b := g0) (As := [.int a1_0]) (rest := []) F hK hN hOm hTm (c_X7_back_1 (eM l G k tM aX aV) (xD 6600 W0) (xD 660 A0) (xD 660 B1) m_second (xB 400 T) (0, 18) (((-2147483648), 2147483647)) (t, t) (((-2147483648), 2147483647)) (0, 4000) (((-2147483648), 2147483647)) (((-2147483648), 2147483647)) (0, 1) u X0 V0 K0 Y1 g0 a1_0 (List.mem_singleton.mpr hg0) (by omega) (by omega) hX0 hV0 hK0 (by omega) hy1) mv_X7_back wd_39_13 ⟨Nat.le_of_ble_eq_true rfl, Nat.le_of_ble_eq_true rfl⟩ ⟨Nat.le_of_ble_eq_true rfl, Nat.le_of_ble_eq_true rfl⟩ hM hS (tRecv hK hM (by rw [show eT (eM l G k tM aX aV) g0 = 24 from hg0]; rfl) clX7) rfl hl.1 (Nat.le_of_ble_eq_true rfl) dL_law_592 (fun v1 H1 locs hq hk_ hS => ?_)
        obtain ⟨u2_1, hu2_1, X2_1, hX2_1, f1_0, hN_⟩ := hq
        have hC := keptC hdis hC hk_
        have hM : TH (eM l G k tM aX aV) (tbM (mD (.inl (t, t)) (.inl (-2147483648, 2147483647)) (.inl (-2147483648, 2147483647)) (.inl (u2_1, u2_1)) (.inl (0, 18)) (.inl (-2147483648, 2147483647)) (.inl (0, 4000)) (.inl (-2147483648, 2147483647)) (.inl (0, 1))) (xD 660 X2_1) (xD 6600 W0) (xD 1320 V0) (xD 660 A0) (xD 660 B1) m_second (xB 400 T) (xZ 2 K0)) H1 := hN_
        have e2_ := rowT.cp (hTie.2.2.2.2.2 (by omega)) (by omega) hD2_0.2 hKn2_0.2 hQ2_0.2
        have hTie : ([26] = [26] → rowT x4 D2_0 Kn2_0 Q2_0 Y1) ∧ ([26] = [27] → rowT x2 Da2 Sa2 Qa2 Y1) ∧ gI K0 0 = kb % 2 ∧ gI K0 1 = kb / 2 ∧ (kb % 2 = 1 → rowT x3 Da3 Sa3 Qa3 Y0) ∧ (kb / 2 = 1 → rowT x4 Da4 Sa4 Qa4 Y1) := ⟨fun _ => e2_, fun h_ => absurd h_ (by decide), hTie.2.2⟩
        refine lv_pop hx hb dL_law_595 rfl ?_
        refine lv_goto (tgt := 1529) hx hb dL_law_596 (by decide) ?_
        have hG_ : (([26] = [26] ∧ [27] = [27]) ∨ ([26] = [27] ∧ [27] = [26])) ∧ (0 ≤ kb ∧ kb ≤ 3) ∧ (0 ≤ x4 ∧ x4 ≤ 12) ∧ (0 ≤ y4 ∧ y4 ≤ 14) ∧ (0 ≤ x2 ∧ x2 ≤ 12) ∧ (0 ≤ y2 ∧ y2 ≤ 14) ∧ (0 ≤ x3 ∧ x3 ≤ 12) ∧ (0 ≤ y3 ∧ y3 ≤ 14) ∧ (0 ≤ x4 ∧ x4 ≤ 12) ∧ (0 ≤ y4 ∧ y4 ≤ 14) ∧ ivP 12 (-2) 11 D2_0 ∧ ivP 12 (-2147483648) 2147483647 Kn2_0 ∧ ivP 48 (-2147483648) 2147483647 Q2_0 ∧ ivP 12 (-2) 11 Da2 ∧ ivP 12 (-2147483648) 2147483647 Sa2 ∧ ivP 48 (-2147483648) 2147483647 Qa2 ∧ ivP 12 (-2) 11 Da3 ∧ ivP 12 (-2147483648) 2147483647 Sa3 ∧ ivP 48 (-2147483648) 2147483647 Qa3 ∧ ivP 12 (-2) 11 Da4 ∧ ivP 12 (-2147483648) 2147483647 Sa4 ∧ ivP 48 (-2147483648) 2147483647 Qa4 := ⟨(by decide), (by omega), (by omega), (by omega), (by omega), (by omega), (by omega), (by omega), (by omega), (by omega), hD2_0.1, hKn2_0.1, hQ2_0.1, hDa2, hSa2, hQa2, hDa3, hSa3, hQa3, hDa4, hSa4, hQa4⟩
        exact hend t T ([26], [27], kb, x4, y4, x2, y2, x3, y3, x4, y4, D2_0, Kn2_0, Q2_0, Da2, Sa2, Qa2, Da3, Sa3, Qa3, Da4, Sa4, Qa4) _ _ ⟨(by omega), hT8⟩ hG_ hC ⟨X2_1, W0, V0, A0, B1, K0, Y1, Y0, Y1, u2_1, (by omega), hX2_1.1, hW0, hV0, hA0, hK0, hX2_1.2, (fun r_ h_ => absurd h_ (by omega)), hy0, hy1, hTie, hM⟩ hS
      · skip
        have hks : ∀ t ∈ ([26] : List Nat), t ∈ [26, 27] := by decide
        refine lawVi (E := (eC l G k tC aX aV)) (b := h0) (As := [.int a1_0]) (rest := []) F hK hN hOc hTc (c_X6_backx_1_2 (eC l G k tC aX aV) (rdD (.inl (0, 400)) (.inl (0, 400)) (.inl (0, 4000)) (.inl (0, 1)) (.inr [26, 27])) (xB 400 T) (x1, x1) (y1, y1) (x2, x2) (y2, y2) (x3, x3) (y3, y3) ([26]) (fun f_ => f_ = Da1) (fun f_ => f_ = Da3) (fun f_ => f_ = Sa1) (fun f_ => f_ = Sa3) (fun f_ => f_ = Qa1) (fun f_ => f_ = Qa3) t kb x4 y4 Da2 Da4 Sa2 Sa4 Qa2 Qa4 h0 a1_0 (List.mem_singleton.mpr hh0) (by omega) (by omega) (by omega) (by omega) (by omega) hDa2 hDa4 hSa2 hSa4 hQa2 hQa4 (by show 0 ≤ x1 ∧ x1 ≤ 12; omega) (by show 0 ≤ y1 ∧ y1 ≤ 14; omega) (by show 0 ≤ x2 ∧ x2 ≤ 12; omega) (by show 0 ≤ y2 ∧ y2 ≤ 14; omega) (by show 0 ≤ x3 ∧ x3 ≤ 12; omega) (by show 0 ≤ y3 ∧ y3 ≤ 14; omega) (by decide) (fun f_ h_ => ivX hDa1 h_) (fun f_ h_ => ivX hDa3 h_) (fun f_ h_ => ivX hSa1 h_) (fun f_ h_ => ivX hSa3 h_) (fun f_ h_ => ivX hQa1 h_) (fun f_ h_ => ivX hQa3 h_) (by omega)) mv_X6_back wd_39_9 ⟨Nat.le_of_ble_eq_true rfl, Nat.le_of_ble_eq_true rfl⟩ ⟨Nat.le_of_ble_eq_true rfl, Nat.le_of_ble_eq_true rfl⟩ hC hS (tRecv hK hC (by rw [show eT (eC l G k tC aX aV) h0 = 28 from hh0]; rfl) clX6) rfl hl.1 (Nat.le_of_ble_eq_true rfl) dL_law_582 (fun v0 H1 locs hq hk_ hS => ?_)
        obtain ⟨D2_0, hD2_0, Kn2_0, hKn2_0, Q2_0, hQ2_0, f0_0, hN_⟩ := hq
        have hM := keptM hdis hM hk_
        have hC : TH (eC l G k tC aX aV) (tbC (dayD (.inl (0, 18))) (dayD (.inl (0, 18))) (riverD (.inl (x1, x1)) (.inl (y1, y1)) (.inl (0, 4)) 31 33 35 39 43 47) (riverD (.inl (x4, x4)) (.inl (y4, y4)) (.inl (0, 4)) 32 34 36 40 44 48) (rcD (.inl (t, t)) (.inr [27]) (.inr [26]) (.inl (kb, kb))) (rdD (.inl (0, 400)) (.inl (0, 400)) (.inl (0, 4000)) (.inl (0, 1)) (.inr [26, 27])) (xB 400 T) A14F A14F A4F A4F A14F A14F (riverD (.inl (x3, x3)) (.inl (y3, y3)) (.inl (0, 4)) 3 8 3 41 45 49) (riverD (.inl (x4, x4)) (.inl (y4, y4)) (.inl (0, 4)) 3 8 3 42 46 50) (xD 12 Da1) (xD 12 D2_0) (xD 12 Da3) (xD 12 Da4) (xD 12 Sa1) (xD 12 Kn2_0) (xD 12 Sa3) (xD 12 Sa4) (xD 48 Qa1) (xD 48 Q2_0) (xD 48 Qa3) (xD 48 Qa4)) H1 := hN_
        refine lv_pop hx hb dL_law_585 rfl ?_
        refine lv_aload_n hx hb dL_law_586 rfl (lv_at hl 1 rfl) ?_
        refine lv_aload_n hx hb dL_law_587 rfl (lv_at hl 3 rfl) ?_
        refine lv_iload_n hx hb dL_law_588 rfl (lv_at hl 0 rfl) ?_
        refine lv_iconst (v := 1) hx hb dL_law_589 (by decide) ?_
        refine lv_iadd hx hb dL_law_590 ?_
        refine va_sld hx hb hX hbl hbA hS (vinT (by rw [hk1]; omega)) dL_law_591 ?_
        refine lv_topi (fun a1_1 ea1_1 => ?_)
        obtain rfl : a1_0 = a1_1 := ea1_0.trans ea1_1.symm
        refine lawVi (E := (eM l G k tM aX aV)) (b := g0) (As := [.int a1_0]) (rest := []) F hK hN hOm hTm (c_X7_back_1 (eM l G k tM aX aV) (xD 6600 W0) (xD 660 A0) (xD 660 B1) m_second (xB 400 T) (0, 18) (((-2147483648), 2147483647)) (t, t) (((-2147483648), 2147483647)) (0, 4000) (((-2147483648), 2147483647)) (((-2147483648), 2147483647)) (0, 1) u X0 V0 K0 Y1 g0 a1_0 (List.mem_singleton.mpr hg0) (by omega) (by omega) hX0 hV0 hK0 (by omega) hy1) mv_X7_back wd_39_13 ⟨Nat.le_of_ble_eq_true rfl, Nat.le_of_ble_eq_true rfl⟩ ⟨Nat.le_of_ble_eq_true rfl, Nat.le_of_ble_eq_true rfl⟩ hM hS (tRecv hK hM (by rw [show eT (eM l G k tM aX aV) g0 = 24 from hg0]; rfl) clX7) rfl hl.1 (Nat.le_of_ble_eq_true rfl) dL_law_592 (fun v1 H1 locs hq hk_ hS => ?_)
        obtain ⟨u2_1, hu2_1, X2_1, hX2_1, f1_0, hN_⟩ := hq
        have hC := keptC hdis hC hk_
        have hM : TH (eM l G k tM aX aV) (tbM (mD (.inl (t, t)) (.inl (-2147483648, 2147483647)) (.inl (-2147483648, 2147483647)) (.inl (u2_1, u2_1)) (.inl (0, 18)) (.inl (-2147483648, 2147483647)) (.inl (0, 4000)) (.inl (-2147483648, 2147483647)) (.inl (0, 1))) (xD 660 X2_1) (xD 6600 W0) (xD 1320 V0) (xD 660 A0) (xD 660 B1) m_second (xB 400 T) (xZ 2 K0)) H1 := hN_
        have e2_ := rowT.cp (hTie.2.2.2.2.2 (by omega)) (by omega) hD2_0.2 hKn2_0.2 hQ2_0.2
        have hTie : ([27] = [26] → rowT x1 Da1 Sa1 Qa1 Y1) ∧ ([27] = [27] → rowT x4 D2_0 Kn2_0 Q2_0 Y1) ∧ gI K0 0 = kb % 2 ∧ gI K0 1 = kb / 2 ∧ (kb % 2 = 1 → rowT x3 Da3 Sa3 Qa3 Y0) ∧ (kb / 2 = 1 → rowT x4 Da4 Sa4 Qa4 Y1) := ⟨fun h_ => absurd h_ (by decide), fun _ => e2_, hTie.2.2⟩
        refine lv_pop hx hb dL_law_595 rfl ?_
        refine lv_goto (tgt := 1529) hx hb dL_law_596 (by decide) ?_
        have hG_ : (([27] = [26] ∧ [26] = [27]) ∨ ([27] = [27] ∧ [26] = [26])) ∧ (0 ≤ kb ∧ kb ≤ 3) ∧ (0 ≤ x1 ∧ x1 ≤ 12) ∧ (0 ≤ y1 ∧ y1 ≤ 14) ∧ (0 ≤ x4 ∧ x4 ≤ 12) ∧ (0 ≤ y4 ∧ y4 ≤ 14) ∧ (0 ≤ x3 ∧ x3 ≤ 12) ∧ (0 ≤ y3 ∧ y3 ≤ 14) ∧ (0 ≤ x4 ∧ x4 ≤ 12) ∧ (0 ≤ y4 ∧ y4 ≤ 14) ∧ ivP 12 (-2) 11 Da1 ∧ ivP 12 (-2147483648) 2147483647 Sa1 ∧ ivP 48 (-2147483648) 2147483647 Qa1 ∧ ivP 12 (-2) 11 D2_0 ∧ ivP 12 (-2147483648) 2147483647 Kn2_0 ∧ ivP 48 (-2147483648) 2147483647 Q2_0 ∧ ivP 12 (-2) 11 Da3 ∧ ivP 12 (-2147483648) 2147483647 Sa3 ∧ ivP 48 (-2147483648) 2147483647 Qa3 ∧ ivP 12 (-2) 11 Da4 ∧ ivP 12 (-2147483648) 2147483647 Sa4 ∧ ivP 48 (-2147483648) 2147483647 Qa4 := ⟨(by decide), (by omega), (by omega), (by omega), (by omega), (by omega), (by omega), (by omega), (by omega), (by omega), hDa1, hSa1, hQa1, hD2_0.1, hKn2_0.1, hQ2_0.1, hDa3, hSa3, hQa3, hDa4, hSa4, hQa4⟩
        exact hend t T ([27], [26], kb, x1, y1, x4, y4, x3, y3, x4, y4, Da1, Sa1, Qa1, D2_0, Kn2_0, Q2_0, Da3, Sa3, Qa3, Da4, Sa4, Qa4) _ _ ⟨(by omega), hT8⟩ hG_ hC ⟨X2_1, W0, V0, A0, B1, K0, Y1, Y0, Y1, u2_1, (by omega), hX2_1.1, hW0, hV0, hA0, hK0, hX2_1.2, (fun r_ h_ => absurd h_ (by omega)), hy0, hy1, hTie, hM⟩ hS
set_option maxHeartbeats 4000000 in
set_option maxRecDepth 100000 in
theorem law_c13 {pg_ : Program} {l : Launch} {ev_ : Env} {s : State} {mi_ : MethodId} {below_ : List Frame} {meth : Method} {cd_ : Code} {H : Heap} {locs : List Loc} {ls : Array Slot} {b L : Nat} {xs : Nat → Int32} {G : va_G} {k : Nat → ClassId} {tC tM aX aV : Nat → Nat} {h0 g0 : Nat} {i : Int32} {t : Int} {T : RwF} {g : Gs} (B0 : LB pg_ s mi_ meth cd_ b L xs l G k tC tM aX aV h0 g0) (hi : 0 ≤ i.toInt ∧ i.toInt + 6 ≤ L) (ht : (0 ≤ t ∧ t ≤ 400) ∧ ivP 400 (-128) 127 T) (hg : Gok g) (hC : Cs (eC l G k tC aX aV) t T g H) (hMs : Ms (eM l G k tM aX aV) t T g H) (hS : va_S (lawA s) s.heap H locs) (hl : lv_has ls 4 [(3, .int i), (2, .ref g0), (1, .ref h0), (0, .ref b)]) (hend : ∀ (t : Int) (T : RwF) (g : Gs) (H : Heap) (locs : List Loc), ((0 ≤ t ∧ t ≤ 400) ∧ ivP 400 (-128) 127 T) → Gok g → Cs (eC l G k tC aX aV) t T g H → Ms (eM l G k tM aX aV) t T g H → va_S (lawA s) s.heap H locs → W pg_ l ev_ room_1 s mi_ #[Value.ref b] below_ meth cd_ H locs 294 18964 (lw_Z below_ #[Value.ref b] s) (F0 mi_ 1529 ls [])) : W pg_ l ev_ room_1 s mi_ #[Value.ref b] below_ meth cd_ H locs 294 18964 (lw_Z below_ #[Value.ref b] s) (F0 mi_ 599 ls []) := by
  obtain ⟨F, hK, hN, hOc, hOm, hX, hbl, hL, hTc, hTm, hdis, hh0, hg0⟩ := id B0
  obtain ⟨hx, hb, hr, hml, hown, hlk, hw, -⟩ := id F
  have hbA : ¬ lawA s b := fun q => absurd q (by unfold lawA; omega)
  obtain ⟨kr, ks, kb, x1, y1, x2, y2, x3, y3, x4, y4, Da1, Sa1, Qa1, Da2, Sa2, Qa2, Da3, Sa3, Qa3, Da4, Sa4, Qa4⟩ := g
  obtain ⟨X0, W0, V0, A0, B1, K0, Z, Y0, Y1, u, hu, hX0, hW0, hV0, hA0, hK0, hqX0, hmW0, hy0, hy1, hTie0, hM⟩ := hMs
  obtain ⟨ht, hT8⟩ := ht
  have hg : ((kr = [26] ∧ ks = [27]) ∨ (kr = [27] ∧ ks = [26])) ∧ (0 ≤ kb ∧ kb ≤ 3) ∧ (0 ≤ x1 ∧ x1 ≤ 12) ∧ (0 ≤ y1 ∧ y1 ≤ 14) ∧ (0 ≤ x2 ∧ x2 ≤ 12) ∧ (0 ≤ y2 ∧ y2 ≤ 14) ∧ (0 ≤ x3 ∧ x3 ≤ 12) ∧ (0 ≤ y3 ∧ y3 ≤ 14) ∧ (0 ≤ x4 ∧ x4 ≤ 12) ∧ (0 ≤ y4 ∧ y4 ≤ 14) ∧ ivP 12 (-2) 11 Da1 ∧ ivP 12 (-2147483648) 2147483647 Sa1 ∧ ivP 48 (-2147483648) 2147483647 Qa1 ∧ ivP 12 (-2) 11 Da2 ∧ ivP 12 (-2147483648) 2147483647 Sa2 ∧ ivP 48 (-2147483648) 2147483647 Qa2 ∧ ivP 12 (-2) 11 Da3 ∧ ivP 12 (-2147483648) 2147483647 Sa3 ∧ ivP 48 (-2147483648) 2147483647 Qa3 ∧ ivP 12 (-2) 11 Da4 ∧ ivP 12 (-2147483648) 2147483647 Sa4 ∧ ivP 48 (-2147483648) 2147483647 Qa4 := hg
  obtain ⟨hkk, hkb, hx1, hy1_, hx2, hy2_, hx3, hy3_, hx4, hy4_, hDa1, hSa1, hQa1, hDa2, hSa2, hQa2, hDa3, hSa3, hQa3, hDa4, hSa4, hQa4⟩ := hg
  have hC : TH (eC l G k tC aX aV) (tbC (dayD (.inl (0, 18))) (dayD (.inl (0, 18))) (riverD (.inl (x1, x1)) (.inl (y1, y1)) (.inl (0, 4)) 31 33 35 39 43 47) (riverD (.inl (x2, x2)) (.inl (y2, y2)) (.inl (0, 4)) 32 34 36 40 44 48) (rcD (.inl (t, t)) (.inr kr) (.inr ks) (.inl (kb, kb))) (rdD (.inl (0, 400)) (.inl (0, 400)) (.inl (0, 4000)) (.inl (0, 1)) (.inr [26, 27])) (xB 400 T) A14F A14F A4F A4F A14F A14F (riverD (.inl (x3, x3)) (.inl (y3, y3)) (.inl (0, 4)) 3 8 3 41 45 49) (riverD (.inl (x4, x4)) (.inl (y4, y4)) (.inl (0, 4)) 3 8 3 42 46 50) (xD 12 Da1) (xD 12 Da2) (xD 12 Da3) (xD 12 Da4) (xD 12 Sa1) (xD 12 Sa2) (xD 12 Sa3) (xD 12 Sa4) (xD 48 Qa1) (xD 48 Qa2) (xD 48 Qa3) (xD 48 Qa4)) H := hC
  have hTie : (kr = [26] → rowT x1 Da1 Sa1 Qa1 Z) ∧ (kr = [27] → rowT x2 Da2 Sa2 Qa2 Z) ∧ gI K0 0 = kb % 2 ∧ gI K0 1 = kb / 2 ∧ (kb % 2 = 1 → rowT x3 Da3 Sa3 Qa3 Y0) ∧ (kb / 2 = 1 → rowT x4 Da4 Sa4 Qa4 Y1) := hTie0
  clear hTie0
  have hk1 : (i + 1).toInt = i.toInt + 1 := by
    have h1 := i_add (x := i) (y := 1) (by rw [show (1 : Int32).toInt = 1 by decide]; omega) (by rw [show (1 : Int32).toInt = 1 by decide]; omega)
    rw [show (1 : Int32).toInt = 1 by decide] at h1
    exact h1
  have hk2 : (i + 2).toInt = i.toInt + 2 := by
    have h1 := i_add (x := i) (y := 2) (by rw [show (2 : Int32).toInt = 2 by decide]; omega) (by rw [show (2 : Int32).toInt = 2 by decide]; omega)
    rw [show (2 : Int32).toInt = 2 by decide] at h1
    exact h1
  refine lv_aload_n hx hb dL_law_599 rfl (lv_at hl 2 rfl) ?_
  refine lv_aload_n hx hb dL_law_600 rfl (lv_at hl 3 rfl) ?_
  refine lv_iload_n hx hb dL_law_601 rfl (lv_at hl 0 rfl) ?_
  refine lv_iconst (v := 1) hx hb dL_law_602 (by decide) ?_
  refine lv_iadd hx hb dL_law_603 ?_
  refine va_sld hx hb hX hbl hbA hS (vinT (by rw [hk1]; omega)) dL_law_604 ?_
  refine lv_topi (fun a1_0 ea1_0 => ?_)
  refine lv_aload_n hx hb dL_law_605 rfl (lv_at hl 3 rfl) ?_
  refine lv_iload_n hx hb dL_law_606 rfl (lv_at hl 0 rfl) ?_
  refine lv_iconst (v := 2) hx hb dL_law_607 (by decide) ?_
  refine lv_iadd hx hb dL_law_608 ?_
  refine va_sld hx hb hX hbl hbA hS (vinT (by rw [hk2]; omega)) dL_law_609 ?_
  refine lv_topi (fun a2_0 ea2_0 => ?_)
  have hkr : ∀ t ∈ kr, t ∈ [26, 27] := by rcases hkk with ⟨h9_, -⟩ | ⟨h9_, -⟩ <;> rw [h9_] <;> decide
  have hks : ∀ t ∈ ks, t ∈ [26, 27] := by rcases hkk with ⟨-, h9_⟩ | ⟨-, h9_⟩ <;> rw [h9_] <;> decide
  refine lawVi (E := (eC l G k tC aX aV)) (b := h0) (As := [.int a1_0, .int a2_0]) (rest := []) F hK hN hOc hTc (c_X6_reach (eC l G k tC aX aV) (rdD (.inl (0, 400)) (.inl (0, 400)) (.inl (0, 4000)) (.inl (0, 1)) (.inr [26, 27])) (xB 400 T) (kb, kb) (x1, x1) (y1, y1) (x2, x2) (y2, y2) (x3, x3) (y3, y3) (x4, x4) (y4, y4) kr ks (fun f_ => f_ = Da1) (fun f_ => f_ = Da2) (fun f_ => f_ = Da3) (fun f_ => f_ = Da4) (fun f_ => f_ = Sa1) (fun f_ => f_ = Sa2) (fun f_ => f_ = Sa3) (fun f_ => f_ = Sa4) (fun f_ => f_ = Qa1) (fun f_ => f_ = Qa2) (fun f_ => f_ = Qa3) (fun f_ => f_ = Qa4) t h0 a1_0 a2_0 (List.mem_singleton.mpr hh0) (by omega) (by show 0 ≤ x1 ∧ x1 ≤ 12; omega) (by show 0 ≤ y1 ∧ y1 ≤ 14; omega) (by show 0 ≤ x2 ∧ x2 ≤ 12; omega) (by show 0 ≤ y2 ∧ y2 ≤ 14; omega) (by show 0 ≤ x3 ∧ x3 ≤ 12; omega) (by show 0 ≤ y3 ∧ y3 ≤ 14; omega) (by show 0 ≤ x4 ∧ x4 ≤ 12; omega) (by show 0 ≤ y4 ∧ y4 ≤ 14; omega) hkr hks (fun f_ h_ => ivX hDa1 h_) (fun f_ h_ => ivX hDa2 h_) (fun f_ h_ => ivX hDa3 h_) (fun f_ h_ => ivX hDa4 h_) (fun f_ h_ => ivX hSa1 h_) (fun f_ h_ => ivX hSa2 h_) (fun f_ h_ => ivX hSa3 h_) (fun f_ h_ => ivX hSa4 h_) (fun f_ h_ => ivX hQa1 h_) (fun f_ h_ => ivX hQa2 h_) (fun f_ h_ => ivX hQa3 h_) (fun f_ h_ => ivX hQa4 h_)) mv_X6_reach wd_39_17 ⟨Nat.le_of_ble_eq_true rfl, Nat.le_of_ble_eq_true rfl⟩ ⟨Nat.le_of_ble_eq_true rfl, Nat.le_of_ble_eq_true rfl⟩ hC hS (tRecv hK hC (by rw [show eT (eC l G k tC aX aV) h0 = 28 from hh0]; rfl) clX6) rfl hl.1 (Nat.le_of_ble_eq_true rfl) dL_law_610 (fun v0 H1 locs hq hk_ hS => ?_)
  obtain ⟨f0_0, hN_⟩ := hq
  have hM := keptM hdis hM hk_
  have hC : TH (eC l G k tC aX aV) (tbC (dayD (.inl (0, 18))) (dayD (.inl (0, 18))) (riverD (.inl (x1, x1)) (.inl (y1, y1)) (.inl (0, 4)) 31 33 35 39 43 47) (riverD (.inl (x2, x2)) (.inl (y2, y2)) (.inl (0, 4)) 32 34 36 40 44 48) (rcD (.inl (t, t)) (.inr kr) (.inr ks) (.inl (kb, kb))) (rdD (.inl (0, 400)) (.inl (0, 400)) (.inl (0, 4000)) (.inl (0, 1)) (.inr [26, 27])) (xB 400 T) A14F A14F A4F A4F A14F A14F (riverD (.inl (x3, x3)) (.inl (y3, y3)) (.inl (0, 4)) 3 8 3 41 45 49) (riverD (.inl (x4, x4)) (.inl (y4, y4)) (.inl (0, 4)) 3 8 3 42 46 50) (xD 12 Da1) (xD 12 Da2) (xD 12 Da3) (xD 12 Da4) (xD 12 Sa1) (xD 12 Sa2) (xD 12 Sa3) (xD 12 Sa4) (xD 48 Qa1) (xD 48 Qa2) (xD 48 Qa3) (xD 48 Qa4)) H1 := hN_
  refine lv_pop hx hb dL_law_613 rfl ?_
  refine lv_aload_n hx hb dL_law_614 rfl (lv_at hl 1 rfl) ?_
  refine lv_aload_n hx hb dL_law_615 rfl (lv_at hl 3 rfl) ?_
  refine lv_iload_n hx hb dL_law_616 rfl (lv_at hl 0 rfl) ?_
  refine lv_iconst (v := 1) hx hb dL_law_617 (by decide) ?_
  refine lv_iadd hx hb dL_law_618 ?_
  refine va_sld hx hb hX hbl hbA hS (vinT (by rw [hk1]; omega)) dL_law_619 ?_
  refine lv_topi (fun a1_1 ea1_1 => ?_)
  obtain rfl : a1_0 = a1_1 := ea1_0.trans ea1_1.symm
  refine lv_aload_n hx hb dL_law_620 rfl (lv_at hl 3 rfl) ?_
  refine lv_iload_n hx hb dL_law_621 rfl (lv_at hl 0 rfl) ?_
  refine lv_iconst (v := 2) hx hb dL_law_622 (by decide) ?_
  refine lv_iadd hx hb dL_law_623 ?_
  refine va_sld hx hb hX hbl hbA hS (vinT (by rw [hk2]; omega)) dL_law_624 ?_
  refine lv_topi (fun a2_1 ea2_1 => ?_)
  obtain rfl : a2_0 = a2_1 := ea2_0.trans ea2_1.symm
  refine lawVi (E := (eM l G k tM aX aV)) (b := g0) (As := [.int a1_0, .int a2_0]) (rest := []) F hK hN hOm hTm (c_X7_reach (eM l G k tM aX aV) (xD 6600 W0) (xD 1320 V0) (xD 660 A0) (xD 660 B1) m_second (xB 400 T) (xZ 2 K0) (u, u) (0, 18) (((-2147483648), 2147483647)) (t, t) (((-2147483648), 2147483647)) (0, 4000) (((-2147483648), 2147483647)) (((-2147483648), 2147483647)) (0, 1) X0 g0 a1_0 a2_0 (List.mem_singleton.mpr hg0) hX0) mv_X7_reach wd_40_8 ⟨Nat.le_of_ble_eq_true rfl, Nat.le_of_ble_eq_true rfl⟩ ⟨Nat.le_of_ble_eq_true rfl, Nat.le_of_ble_eq_true rfl⟩ hM hS (tRecv hK hM (by rw [show eT (eM l G k tM aX aV) g0 = 24 from hg0]; rfl) clX7) rfl hl.1 (Nat.le_of_ble_eq_true rfl) dL_law_625 (fun v1 H1 locs hq hk_ hS => ?_)
  obtain ⟨f1_0, hN_⟩ := hq
  have hC := keptC hdis hC hk_
  have hM : TH (eM l G k tM aX aV) (tbM (mD (.inl (t, t)) (.inl (-2147483648, 2147483647)) (.inl (-2147483648, 2147483647)) (.inl (u, u)) (.inl (0, 18)) (.inl (-2147483648, 2147483647)) (.inl (0, 4000)) (.inl (-2147483648, 2147483647)) (.inl (0, 1))) (xD 660 X0) (xD 6600 W0) (xD 1320 V0) (xD 660 A0) (xD 660 B1) m_second (xB 400 T) (xZ 2 K0)) H1 := hN_
  refine lv_pop hx hb dL_law_628 rfl ?_
  refine lv_goto (tgt := 1529) hx hb dL_law_629 (by decide) ?_
  have hG_ : ((kr = [26] ∧ ks = [27]) ∨ (kr = [27] ∧ ks = [26])) ∧ (0 ≤ kb ∧ kb ≤ 3) ∧ (0 ≤ x1 ∧ x1 ≤ 12) ∧ (0 ≤ y1 ∧ y1 ≤ 14) ∧ (0 ≤ x2 ∧ x2 ≤ 12) ∧ (0 ≤ y2 ∧ y2 ≤ 14) ∧ (0 ≤ x3 ∧ x3 ≤ 12) ∧ (0 ≤ y3 ∧ y3 ≤ 14) ∧ (0 ≤ x4 ∧ x4 ≤ 12) ∧ (0 ≤ y4 ∧ y4 ≤ 14) ∧ ivP 12 (-2) 11 Da1 ∧ ivP 12 (-2147483648) 2147483647 Sa1 ∧ ivP 48 (-2147483648) 2147483647 Qa1 ∧ ivP 12 (-2) 11 Da2 ∧ ivP 12 (-2147483648) 2147483647 Sa2 ∧ ivP 48 (-2147483648) 2147483647 Qa2 ∧ ivP 12 (-2) 11 Da3 ∧ ivP 12 (-2147483648) 2147483647 Sa3 ∧ ivP 48 (-2147483648) 2147483647 Qa3 ∧ ivP 12 (-2) 11 Da4 ∧ ivP 12 (-2147483648) 2147483647 Sa4 ∧ ivP 48 (-2147483648) 2147483647 Qa4 := ⟨hkk, (by omega), (by omega), (by omega), (by omega), (by omega), (by omega), (by omega), (by omega), (by omega), hDa1, hSa1, hQa1, hDa2, hSa2, hQa2, hDa3, hSa3, hQa3, hDa4, hSa4, hQa4⟩
  exact hend t T (kr, ks, kb, x1, y1, x2, y2, x3, y3, x4, y4, Da1, Sa1, Qa1, Da2, Sa2, Qa2, Da3, Sa3, Qa3, Da4, Sa4, Qa4) _ _ ⟨(by omega), hT8⟩ hG_ hC ⟨X0, W0, V0, A0, B1, K0, Z, Y0, Y1, u, (by omega), hX0, hW0, hV0, hA0, hK0, hqX0, hmW0, hy0, hy1, hTie, hM⟩ hS
set_option maxHeartbeats 4000000 in
set_option maxRecDepth 100000 in
theorem law_c14 {pg_ : Program} {l : Launch} {ev_ : Env} {s : State} {mi_ : MethodId} {below_ : List Frame} {meth : Method} {cd_ : Code} {H : Heap} {locs : List Loc} {ls : Array Slot} {b L : Nat} {xs : Nat → Int32} {G : va_G} {k : Nat → ClassId} {tC tM aX aV : Nat → Nat} {h0 g0 : Nat} {i : Int32} {t : Int} {T : RwF} {g : Gs} (B0 : LB pg_ s mi_ meth cd_ b L xs l G k tC tM aX aV h0 g0) (hi : 0 ≤ i.toInt ∧ i.toInt + 6 ≤ L) (ht : (0 ≤ t ∧ t ≤ 400) ∧ ivP 400 (-128) 127 T) (hg : Gok g) (hC : Cs (eC l G k tC aX aV) t T g H) (hMs : Ms (eM l G k tM aX aV) t T g H) (hS : va_S (lawA s) s.heap H locs) (hl : lv_has ls 4 [(3, .int i), (2, .ref g0), (1, .ref h0), (0, .ref b)]) (hend : ∀ (t : Int) (T : RwF) (g : Gs) (H : Heap) (locs : List Loc), ((0 ≤ t ∧ t ≤ 400) ∧ ivP 400 (-128) 127 T) → Gok g → Cs (eC l G k tC aX aV) t T g H → Ms (eM l G k tM aX aV) t T g H → va_S (lawA s) s.heap H locs → W pg_ l ev_ room_1 s mi_ #[Value.ref b] below_ meth cd_ H locs 294 18964 (lw_Z below_ #[Value.ref b] s) (F0 mi_ 1529 ls [])) : W pg_ l ev_ room_1 s mi_ #[Value.ref b] below_ meth cd_ H locs 294 18964 (lw_Z below_ #[Value.ref b] s) (F0 mi_ 632 ls []) := by
  obtain ⟨F, hK, hN, hOc, hOm, hX, hbl, hL, hTc, hTm, hdis, hh0, hg0⟩ := id B0
  obtain ⟨hx, hb, hr, hml, hown, hlk, hw, -⟩ := id F
  have hbA : ¬ lawA s b := fun q => absurd q (by unfold lawA; omega)
  obtain ⟨kr, ks, kb, x1, y1, x2, y2, x3, y3, x4, y4, Da1, Sa1, Qa1, Da2, Sa2, Qa2, Da3, Sa3, Qa3, Da4, Sa4, Qa4⟩ := g
  obtain ⟨X0, W0, V0, A0, B1, K0, Z, Y0, Y1, u, hu, hX0, hW0, hV0, hA0, hK0, hqX0, hmW0, hy0, hy1, hTie0, hM⟩ := hMs
  obtain ⟨ht, hT8⟩ := ht
  have hg : ((kr = [26] ∧ ks = [27]) ∨ (kr = [27] ∧ ks = [26])) ∧ (0 ≤ kb ∧ kb ≤ 3) ∧ (0 ≤ x1 ∧ x1 ≤ 12) ∧ (0 ≤ y1 ∧ y1 ≤ 14) ∧ (0 ≤ x2 ∧ x2 ≤ 12) ∧ (0 ≤ y2 ∧ y2 ≤ 14) ∧ (0 ≤ x3 ∧ x3 ≤ 12) ∧ (0 ≤ y3 ∧ y3 ≤ 14) ∧ (0 ≤ x4 ∧ x4 ≤ 12) ∧ (0 ≤ y4 ∧ y4 ≤ 14) ∧ ivP 12 (-2) 11 Da1 ∧ ivP 12 (-2147483648) 2147483647 Sa1 ∧ ivP 48 (-2147483648) 2147483647 Qa1 ∧ ivP 12 (-2) 11 Da2 ∧ ivP 12 (-2147483648) 2147483647 Sa2 ∧ ivP 48 (-2147483648) 2147483647 Qa2 ∧ ivP 12 (-2) 11 Da3 ∧ ivP 12 (-2147483648) 2147483647 Sa3 ∧ ivP 48 (-2147483648) 2147483647 Qa3 ∧ ivP 12 (-2) 11 Da4 ∧ ivP 12 (-2147483648) 2147483647 Sa4 ∧ ivP 48 (-2147483648) 2147483647 Qa4 := hg
  obtain ⟨hkk, hkb, hx1, hy1_, hx2, hy2_, hx3, hy3_, hx4, hy4_, hDa1, hSa1, hQa1, hDa2, hSa2, hQa2, hDa3, hSa3, hQa3, hDa4, hSa4, hQa4⟩ := hg
  have hC : TH (eC l G k tC aX aV) (tbC (dayD (.inl (0, 18))) (dayD (.inl (0, 18))) (riverD (.inl (x1, x1)) (.inl (y1, y1)) (.inl (0, 4)) 31 33 35 39 43 47) (riverD (.inl (x2, x2)) (.inl (y2, y2)) (.inl (0, 4)) 32 34 36 40 44 48) (rcD (.inl (t, t)) (.inr kr) (.inr ks) (.inl (kb, kb))) (rdD (.inl (0, 400)) (.inl (0, 400)) (.inl (0, 4000)) (.inl (0, 1)) (.inr [26, 27])) (xB 400 T) A14F A14F A4F A4F A14F A14F (riverD (.inl (x3, x3)) (.inl (y3, y3)) (.inl (0, 4)) 3 8 3 41 45 49) (riverD (.inl (x4, x4)) (.inl (y4, y4)) (.inl (0, 4)) 3 8 3 42 46 50) (xD 12 Da1) (xD 12 Da2) (xD 12 Da3) (xD 12 Da4) (xD 12 Sa1) (xD 12 Sa2) (xD 12 Sa3) (xD 12 Sa4) (xD 48 Qa1) (xD 48 Qa2) (xD 48 Qa3) (xD 48 Qa4)) H := hC
  have hTie : (kr = [26] → rowT x1 Da1 Sa1 Qa1 Z) ∧ (kr = [27] → rowT x2 Da2 Sa2 Qa2 Z) ∧ gI K0 0 = kb % 2 ∧ gI K0 1 = kb / 2 ∧ (kb % 2 = 1 → rowT x3 Da3 Sa3 Qa3 Y0) ∧ (kb / 2 = 1 → rowT x4 Da4 Sa4 Qa4 Y1) := hTie0
  clear hTie0
  have hk1 : (i + 1).toInt = i.toInt + 1 := by
    have h1 := i_add (x := i) (y := 1) (by rw [show (1 : Int32).toInt = 1 by decide]; omega) (by rw [show (1 : Int32).toInt = 1 by decide]; omega)
    rw [show (1 : Int32).toInt = 1 by decide] at h1
    exact h1
  have hk2 : (i + 2).toInt = i.toInt + 2 := by
    have h1 := i_add (x := i) (y := 2) (by rw [show (2 : Int32).toInt = 2 by decide]; omega) (by rw [show (2 : Int32).toInt = 2 by decide]; omega)
    rw [show (2 : Int32).toInt = 2 by decide] at h1
    exact h1
  refine lv_aload_n hx hb dL_law_632 rfl (lv_at hl 2 rfl) ?_
  refine lv_aload_n hx hb dL_law_633 rfl (lv_at hl 3 rfl) ?_
  refine lv_iload_n hx hb dL_law_634 rfl (lv_at hl 0 rfl) ?_
  refine lv_iconst (v := 1) hx hb dL_law_635 (by decide) ?_
  refine lv_iadd hx hb dL_law_636 ?_
  refine va_sld hx hb hX hbl hbA hS (vinT (by rw [hk1]; omega)) dL_law_637 ?_
  refine lv_topi (fun a1_0 ea1_0 => ?_)
  refine lv_aload_n hx hb dL_law_638 rfl (lv_at hl 3 rfl) ?_
  refine lv_iload_n hx hb dL_law_639 rfl (lv_at hl 0 rfl) ?_
  refine lv_iconst (v := 2) hx hb dL_law_640 (by decide) ?_
  refine lv_iadd hx hb dL_law_641 ?_
  refine va_sld hx hb hX hbl hbA hS (vinT (by rw [hk2]; omega)) dL_law_642 ?_
  refine lv_topi (fun a2_0 ea2_0 => ?_)
  have hkr : ∀ t ∈ kr, t ∈ [26, 27] := by rcases hkk with ⟨h9_, -⟩ | ⟨h9_, -⟩ <;> rw [h9_] <;> decide
  have hks : ∀ t ∈ ks, t ∈ [26, 27] := by rcases hkk with ⟨-, h9_⟩ | ⟨-, h9_⟩ <;> rw [h9_] <;> decide
  refine lawVi (E := (eC l G k tC aX aV)) (b := h0) (As := [.int a1_0, .int a2_0]) (rest := []) F hK hN hOc hTc (c_X6_right (eC l G k tC aX aV) (rdD (.inl (0, 400)) (.inl (0, 400)) (.inl (0, 4000)) (.inl (0, 1)) (.inr [26, 27])) (xB 400 T) (kb, kb) (x1, x1) (y1, y1) (x2, x2) (y2, y2) (x3, x3) (y3, y3) (x4, x4) (y4, y4) kr ks (fun f_ => f_ = Da1) (fun f_ => f_ = Da2) (fun f_ => f_ = Da3) (fun f_ => f_ = Da4) (fun f_ => f_ = Sa1) (fun f_ => f_ = Sa2) (fun f_ => f_ = Sa3) (fun f_ => f_ = Sa4) (fun f_ => f_ = Qa1) (fun f_ => f_ = Qa2) (fun f_ => f_ = Qa3) (fun f_ => f_ = Qa4) t h0 a1_0 a2_0 (List.mem_singleton.mpr hh0) (by omega) (by show 0 ≤ x1 ∧ x1 ≤ 12; omega) (by show 0 ≤ y1 ∧ y1 ≤ 14; omega) (by show 0 ≤ x2 ∧ x2 ≤ 12; omega) (by show 0 ≤ y2 ∧ y2 ≤ 14; omega) (by show 0 ≤ x3 ∧ x3 ≤ 12; omega) (by show 0 ≤ y3 ∧ y3 ≤ 14; omega) (by show 0 ≤ x4 ∧ x4 ≤ 12; omega) (by show 0 ≤ y4 ∧ y4 ≤ 14; omega) hkr hks (fun f_ h_ => ivX hDa1 h_) (fun f_ h_ => ivX hDa2 h_) (fun f_ h_ => ivX hDa3 h_) (fun f_ h_ => ivX hDa4 h_) (fun f_ h_ => ivX hSa1 h_) (fun f_ h_ => ivX hSa2 h_) (fun f_ h_ => ivX hSa3 h_) (fun f_ h_ => ivX hSa4 h_) (fun f_ h_ => ivX hQa1 h_) (fun f_ h_ => ivX hQa2 h_) (fun f_ h_ => ivX hQa3 h_) (fun f_ h_ => ivX hQa4 h_)) mv_X6_right wd_40_20 ⟨Nat.le_of_ble_eq_true rfl, Nat.le_of_ble_eq_true rfl⟩ ⟨Nat.le_of_ble_eq_true rfl, Nat.le_of_ble_eq_true rfl⟩ hC hS (tRecv hK hC (by rw [show eT (eC l G k tC aX aV) h0 = 28 from hh0]; rfl) clX6) rfl hl.1 (Nat.le_of_ble_eq_true rfl) dL_law_643 (fun v0 H1 locs hq hk_ hS => ?_)
  obtain ⟨f0_0, hN_⟩ := hq
  have hM := keptM hdis hM hk_
  have hC : TH (eC l G k tC aX aV) (tbC (dayD (.inl (0, 18))) (dayD (.inl (0, 18))) (riverD (.inl (x1, x1)) (.inl (y1, y1)) (.inl (0, 4)) 31 33 35 39 43 47) (riverD (.inl (x2, x2)) (.inl (y2, y2)) (.inl (0, 4)) 32 34 36 40 44 48) (rcD (.inl (t, t)) (.inr kr) (.inr ks) (.inl (kb, kb))) (rdD (.inl (0, 400)) (.inl (0, 400)) (.inl (0, 4000)) (.inl (0, 1)) (.inr [26, 27])) (xB 400 T) A14F A14F A4F A4F A14F A14F (riverD (.inl (x3, x3)) (.inl (y3, y3)) (.inl (0, 4)) 3 8 3 41 45 49) (riverD (.inl (x4, x4)) (.inl (y4, y4)) (.inl (0, 4)) 3 8 3 42 46 50) (xD 12 Da1) (xD 12 Da2) (xD 12 Da3) (xD 12 Da4) (xD 12 Sa1) (xD 12 Sa2) (xD 12 Sa3) (xD 12 Sa4) (xD 48 Qa1) (xD 48 Qa2) (xD 48 Qa3) (xD 48 Qa4)) H1 := hN_
  refine lv_pop hx hb dL_law_646 rfl ?_
  refine lv_aload_n hx hb dL_law_647 rfl (lv_at hl 1 rfl) ?_
  refine lv_aload_n hx hb dL_law_648 rfl (lv_at hl 3 rfl) ?_
  refine lv_iload_n hx hb dL_law_649 rfl (lv_at hl 0 rfl) ?_
  refine lv_iconst (v := 1) hx hb dL_law_650 (by decide) ?_
  refine lv_iadd hx hb dL_law_651 ?_
  refine va_sld hx hb hX hbl hbA hS (vinT (by rw [hk1]; omega)) dL_law_652 ?_
  refine lv_topi (fun a1_1 ea1_1 => ?_)
  obtain rfl : a1_0 = a1_1 := ea1_0.trans ea1_1.symm
  refine lv_aload_n hx hb dL_law_653 rfl (lv_at hl 3 rfl) ?_
  refine lv_iload_n hx hb dL_law_654 rfl (lv_at hl 0 rfl) ?_
  refine lv_iconst (v := 2) hx hb dL_law_655 (by decide) ?_
  refine lv_iadd hx hb dL_law_656 ?_
  refine va_sld hx hb hX hbl hbA hS (vinT (by rw [hk2]; omega)) dL_law_657 ?_
  refine lv_topi (fun a2_1 ea2_1 => ?_)
  obtain rfl : a2_0 = a2_1 := ea2_0.trans ea2_1.symm
  refine lawVi (E := (eM l G k tM aX aV)) (b := g0) (As := [.int a1_0, .int a2_0]) (rest := []) F hK hN hOm hTm (c_X7_right (eM l G k tM aX aV) (xD 6600 W0) (xD 1320 V0) (xD 660 A0) (xD 660 B1) m_second (xB 400 T) (xZ 2 K0) (u, u) (0, 18) (((-2147483648), 2147483647)) (t, t) (((-2147483648), 2147483647)) (0, 4000) (((-2147483648), 2147483647)) (((-2147483648), 2147483647)) (0, 1) X0 g0 a1_0 a2_0 (List.mem_singleton.mpr hg0) hX0) mv_X7_right wd_41_9 ⟨Nat.le_of_ble_eq_true rfl, Nat.le_of_ble_eq_true rfl⟩ ⟨Nat.le_of_ble_eq_true rfl, Nat.le_of_ble_eq_true rfl⟩ hM hS (tRecv hK hM (by rw [show eT (eM l G k tM aX aV) g0 = 24 from hg0]; rfl) clX7) rfl hl.1 (Nat.le_of_ble_eq_true rfl) dL_law_658 (fun v1 H1 locs hq hk_ hS => ?_)
  obtain ⟨f1_0, hN_⟩ := hq
  have hC := keptC hdis hC hk_
  have hM : TH (eM l G k tM aX aV) (tbM (mD (.inl (t, t)) (.inl (-2147483648, 2147483647)) (.inl (-2147483648, 2147483647)) (.inl (u, u)) (.inl (0, 18)) (.inl (-2147483648, 2147483647)) (.inl (0, 4000)) (.inl (-2147483648, 2147483647)) (.inl (0, 1))) (xD 660 X0) (xD 6600 W0) (xD 1320 V0) (xD 660 A0) (xD 660 B1) m_second (xB 400 T) (xZ 2 K0)) H1 := hN_
  refine lv_pop hx hb dL_law_661 rfl ?_
  refine lv_goto (tgt := 1529) hx hb dL_law_662 (by decide) ?_
  have hG_ : ((kr = [26] ∧ ks = [27]) ∨ (kr = [27] ∧ ks = [26])) ∧ (0 ≤ kb ∧ kb ≤ 3) ∧ (0 ≤ x1 ∧ x1 ≤ 12) ∧ (0 ≤ y1 ∧ y1 ≤ 14) ∧ (0 ≤ x2 ∧ x2 ≤ 12) ∧ (0 ≤ y2 ∧ y2 ≤ 14) ∧ (0 ≤ x3 ∧ x3 ≤ 12) ∧ (0 ≤ y3 ∧ y3 ≤ 14) ∧ (0 ≤ x4 ∧ x4 ≤ 12) ∧ (0 ≤ y4 ∧ y4 ≤ 14) ∧ ivP 12 (-2) 11 Da1 ∧ ivP 12 (-2147483648) 2147483647 Sa1 ∧ ivP 48 (-2147483648) 2147483647 Qa1 ∧ ivP 12 (-2) 11 Da2 ∧ ivP 12 (-2147483648) 2147483647 Sa2 ∧ ivP 48 (-2147483648) 2147483647 Qa2 ∧ ivP 12 (-2) 11 Da3 ∧ ivP 12 (-2147483648) 2147483647 Sa3 ∧ ivP 48 (-2147483648) 2147483647 Qa3 ∧ ivP 12 (-2) 11 Da4 ∧ ivP 12 (-2147483648) 2147483647 Sa4 ∧ ivP 48 (-2147483648) 2147483647 Qa4 := ⟨hkk, (by omega), (by omega), (by omega), (by omega), (by omega), (by omega), (by omega), (by omega), (by omega), hDa1, hSa1, hQa1, hDa2, hSa2, hQa2, hDa3, hSa3, hQa3, hDa4, hSa4, hQa4⟩
  exact hend t T (kr, ks, kb, x1, y1, x2, y2, x3, y3, x4, y4, Da1, Sa1, Qa1, Da2, Sa2, Qa2, Da3, Sa3, Qa3, Da4, Sa4, Qa4) _ _ ⟨(by omega), hT8⟩ hG_ hC ⟨X0, W0, V0, A0, B1, K0, Z, Y0, Y1, u, (by omega), hX0, hW0, hV0, hA0, hK0, hqX0, hmW0, hy0, hy1, hTie, hM⟩ hS
set_option maxHeartbeats 4000000 in
set_option maxRecDepth 100000 in
theorem law_c15 {pg_ : Program} {l : Launch} {ev_ : Env} {s : State} {mi_ : MethodId} {below_ : List Frame} {meth : Method} {cd_ : Code} {H : Heap} {locs : List Loc} {ls : Array Slot} {b L : Nat} {xs : Nat → Int32} {G : va_G} {k : Nat → ClassId} {tC tM aX aV : Nat → Nat} {h0 g0 : Nat} {i : Int32} {t : Int} {T : RwF} {g : Gs} (B0 : LB pg_ s mi_ meth cd_ b L xs l G k tC tM aX aV h0 g0) (hi : 0 ≤ i.toInt ∧ i.toInt + 6 ≤ L) (ht : (0 ≤ t ∧ t ≤ 400) ∧ ivP 400 (-128) 127 T) (hg : Gok g) (hC : Cs (eC l G k tC aX aV) t T g H) (hMs : Ms (eM l G k tM aX aV) t T g H) (hS : va_S (lawA s) s.heap H locs) (hl : lv_has ls 4 [(3, .int i), (2, .ref g0), (1, .ref h0), (0, .ref b)]) (hend : ∀ (t : Int) (T : RwF) (g : Gs) (H : Heap) (locs : List Loc), ((0 ≤ t ∧ t ≤ 400) ∧ ivP 400 (-128) 127 T) → Gok g → Cs (eC l G k tC aX aV) t T g H → Ms (eM l G k tM aX aV) t T g H → va_S (lawA s) s.heap H locs → W pg_ l ev_ room_1 s mi_ #[Value.ref b] below_ meth cd_ H locs 294 18964 (lw_Z below_ #[Value.ref b] s) (F0 mi_ 1529 ls [])) : W pg_ l ev_ room_1 s mi_ #[Value.ref b] below_ meth cd_ H locs 294 18964 (lw_Z below_ #[Value.ref b] s) (F0 mi_ 665 ls []) := by
  obtain ⟨F, hK, hN, hOc, hOm, hX, hbl, hL, hTc, hTm, hdis, hh0, hg0⟩ := id B0
  obtain ⟨hx, hb, hr, hml, hown, hlk, hw, -⟩ := id F
  have hbA : ¬ lawA s b := fun q => absurd q (by unfold lawA; omega)
  obtain ⟨kr, ks, kb, x1, y1, x2, y2, x3, y3, x4, y4, Da1, Sa1, Qa1, Da2, Sa2, Qa2, Da3, Sa3, Qa3, Da4, Sa4, Qa4⟩ := g
  obtain ⟨X0, W0, V0, A0, B1, K0, Z, Y0, Y1, u, hu, hX0, hW0, hV0, hA0, hK0, hqX0, hmW0, hy0, hy1, hTie0, hM⟩ := hMs
  obtain ⟨ht, hT8⟩ := ht
  have hg : ((kr = [26] ∧ ks = [27]) ∨ (kr = [27] ∧ ks = [26])) ∧ (0 ≤ kb ∧ kb ≤ 3) ∧ (0 ≤ x1 ∧ x1 ≤ 12) ∧ (0 ≤ y1 ∧ y1 ≤ 14) ∧ (0 ≤ x2 ∧ x2 ≤ 12) ∧ (0 ≤ y2 ∧ y2 ≤ 14) ∧ (0 ≤ x3 ∧ x3 ≤ 12) ∧ (0 ≤ y3 ∧ y3 ≤ 14) ∧ (0 ≤ x4 ∧ x4 ≤ 12) ∧ (0 ≤ y4 ∧ y4 ≤ 14) ∧ ivP 12 (-2) 11 Da1 ∧ ivP 12 (-2147483648) 2147483647 Sa1 ∧ ivP 48 (-2147483648) 2147483647 Qa1 ∧ ivP 12 (-2) 11 Da2 ∧ ivP 12 (-2147483648) 2147483647 Sa2 ∧ ivP 48 (-2147483648) 2147483647 Qa2 ∧ ivP 12 (-2) 11 Da3 ∧ ivP 12 (-2147483648) 2147483647 Sa3 ∧ ivP 48 (-2147483648) 2147483647 Qa3 ∧ ivP 12 (-2) 11 Da4 ∧ ivP 12 (-2147483648) 2147483647 Sa4 ∧ ivP 48 (-2147483648) 2147483647 Qa4 := hg
  obtain ⟨hkk, hkb, hx1, hy1_, hx2, hy2_, hx3, hy3_, hx4, hy4_, hDa1, hSa1, hQa1, hDa2, hSa2, hQa2, hDa3, hSa3, hQa3, hDa4, hSa4, hQa4⟩ := hg
  have hC : TH (eC l G k tC aX aV) (tbC (dayD (.inl (0, 18))) (dayD (.inl (0, 18))) (riverD (.inl (x1, x1)) (.inl (y1, y1)) (.inl (0, 4)) 31 33 35 39 43 47) (riverD (.inl (x2, x2)) (.inl (y2, y2)) (.inl (0, 4)) 32 34 36 40 44 48) (rcD (.inl (t, t)) (.inr kr) (.inr ks) (.inl (kb, kb))) (rdD (.inl (0, 400)) (.inl (0, 400)) (.inl (0, 4000)) (.inl (0, 1)) (.inr [26, 27])) (xB 400 T) A14F A14F A4F A4F A14F A14F (riverD (.inl (x3, x3)) (.inl (y3, y3)) (.inl (0, 4)) 3 8 3 41 45 49) (riverD (.inl (x4, x4)) (.inl (y4, y4)) (.inl (0, 4)) 3 8 3 42 46 50) (xD 12 Da1) (xD 12 Da2) (xD 12 Da3) (xD 12 Da4) (xD 12 Sa1) (xD 12 Sa2) (xD 12 Sa3) (xD 12 Sa4) (xD 48 Qa1) (xD 48 Qa2) (xD 48 Qa3) (xD 48 Qa4)) H := hC
  have hTie : (kr = [26] → rowT x1 Da1 Sa1 Qa1 Z) ∧ (kr = [27] → rowT x2 Da2 Sa2 Qa2 Z) ∧ gI K0 0 = kb % 2 ∧ gI K0 1 = kb / 2 ∧ (kb % 2 = 1 → rowT x3 Da3 Sa3 Qa3 Y0) ∧ (kb / 2 = 1 → rowT x4 Da4 Sa4 Qa4 Y1) := hTie0
  clear hTie0
  have hk1 : (i + 1).toInt = i.toInt + 1 := by
    have h1 := i_add (x := i) (y := 1) (by rw [show (1 : Int32).toInt = 1 by decide]; omega) (by rw [show (1 : Int32).toInt = 1 by decide]; omega)
    rw [show (1 : Int32).toInt = 1 by decide] at h1
    exact h1
  have hk2 : (i + 2).toInt = i.toInt + 2 := by
    have h1 := i_add (x := i) (y := 2) (by rw [show (2 : Int32).toInt = 2 by decide]; omega) (by rw [show (2 : Int32).toInt = 2 by decide]; omega)
    rw [show (2 : Int32).toInt = 2 by decide] at h1
    exact h1
  refine lv_aload_n hx hb dL_law_665 rfl (lv_at hl 2 rfl) ?_
  refine lv_aload_n hx hb dL_law_666 rfl (lv_at hl 3 rfl) ?_
  refine lv_iload_n hx hb dL_law_667 rfl (lv_at hl 0 rfl) ?_
  refine lv_iconst (v := 1) hx hb dL_law_668 (by decide) ?_
  refine lv_iadd hx hb dL_law_669 ?_
  refine va_sld hx hb hX hbl hbA hS (vinT (by rw [hk1]; omega)) dL_law_670 ?_
  refine lv_topi (fun a1_0 ea1_0 => ?_)
  refine lv_aload_n hx hb dL_law_671 rfl (lv_at hl 3 rfl) ?_
  refine lv_iload_n hx hb dL_law_672 rfl (lv_at hl 0 rfl) ?_
  refine lv_iconst (v := 2) hx hb dL_law_673 (by decide) ?_
  refine lv_iadd hx hb dL_law_674 ?_
  refine va_sld hx hb hX hbl hbA hS (vinT (by rw [hk2]; omega)) dL_law_675 ?_
  refine lv_topi (fun a2_0 ea2_0 => ?_)
  have hkr : ∀ t ∈ kr, t ∈ [26, 27] := by rcases hkk with ⟨h9_, -⟩ | ⟨h9_, -⟩ <;> rw [h9_] <;> decide
  have hks : ∀ t ∈ ks, t ∈ [26, 27] := by rcases hkk with ⟨-, h9_⟩ | ⟨-, h9_⟩ <;> rw [h9_] <;> decide
  refine lawVi (E := (eC l G k tC aX aV)) (b := h0) (As := [.int a1_0, .int a2_0]) (rest := []) F hK hN hOc hTc (c_X6_store (eC l G k tC aX aV) (rdD (.inl (0, 400)) (.inl (0, 400)) (.inl (0, 4000)) (.inl (0, 1)) (.inr [26, 27])) (xB 400 T) (kb, kb) (x1, x1) (y1, y1) (x2, x2) (y2, y2) (x3, x3) (y3, y3) (x4, x4) (y4, y4) kr ks (fun f_ => f_ = Da1) (fun f_ => f_ = Da2) (fun f_ => f_ = Da3) (fun f_ => f_ = Da4) (fun f_ => f_ = Sa1) (fun f_ => f_ = Sa2) (fun f_ => f_ = Sa3) (fun f_ => f_ = Sa4) (fun f_ => f_ = Qa1) (fun f_ => f_ = Qa2) (fun f_ => f_ = Qa3) (fun f_ => f_ = Qa4) t h0 a1_0 a2_0 (List.mem_singleton.mpr hh0) (by omega) (by show 0 ≤ x1 ∧ x1 ≤ 12; omega) (by show 0 ≤ y1 ∧ y1 ≤ 14; omega) (by show 0 ≤ x2 ∧ x2 ≤ 12; omega) (by show 0 ≤ y2 ∧ y2 ≤ 14; omega) (by show 0 ≤ x3 ∧ x3 ≤ 12; omega) (by show 0 ≤ y3 ∧ y3 ≤ 14; omega) (by show 0 ≤ x4 ∧ x4 ≤ 12; omega) (by show 0 ≤ y4 ∧ y4 ≤ 14; omega) hkr hks (fun f_ h_ => ivX hDa1 h_) (fun f_ h_ => ivX hDa2 h_) (fun f_ h_ => ivX hDa3 h_) (fun f_ h_ => ivX hDa4 h_) (fun f_ h_ => ivX hSa1 h_) (fun f_ h_ => ivX hSa2 h_) (fun f_ h_ => ivX hSa3 h_) (fun f_ h_ => ivX hSa4 h_) (fun f_ h_ => ivX hQa1 h_) (fun f_ h_ => ivX hQa2 h_) (fun f_ h_ => ivX hQa3 h_) (fun f_ h_ => ivX hQa4 h_)) mv_X6_store wd_41_14 ⟨Nat.le_of_ble_eq_true rfl, Nat.le_of_ble_eq_true rfl⟩ ⟨Nat.le_of_ble_eq_true rfl, Nat.le_of_ble_eq_true rfl⟩ hC hS (tRecv hK hC (by rw [show eT (eC l G k tC aX aV) h0 = 28 from hh0]; rfl) clX6) rfl hl.1 (Nat.le_of_ble_eq_true rfl) dL_law_676 (fun v0 H1 locs hq hk_ hS => ?_)
  obtain ⟨f0_0, hN_⟩ := hq
  have hM := keptM hdis hM hk_
  have hC : TH (eC l G k tC aX aV) (tbC (dayD (.inl (0, 18))) (dayD (.inl (0, 18))) (riverD (.inl (x1, x1)) (.inl (y1, y1)) (.inl (0, 4)) 31 33 35 39 43 47) (riverD (.inl (x2, x2)) (.inl (y2, y2)) (.inl (0, 4)) 32 34 36 40 44 48) (rcD (.inl (t, t)) (.inr kr) (.inr ks) (.inl (kb, kb))) (rdD (.inl (0, 400)) (.inl (0, 400)) (.inl (0, 4000)) (.inl (0, 1)) (.inr [26, 27])) (xB 400 T) A14F A14F A4F A4F A14F A14F (riverD (.inl (x3, x3)) (.inl (y3, y3)) (.inl (0, 4)) 3 8 3 41 45 49) (riverD (.inl (x4, x4)) (.inl (y4, y4)) (.inl (0, 4)) 3 8 3 42 46 50) (xD 12 Da1) (xD 12 Da2) (xD 12 Da3) (xD 12 Da4) (xD 12 Sa1) (xD 12 Sa2) (xD 12 Sa3) (xD 12 Sa4) (xD 48 Qa1) (xD 48 Qa2) (xD 48 Qa3) (xD 48 Qa4)) H1 := hN_
  refine lv_pop hx hb dL_law_679 rfl ?_
  refine lv_aload_n hx hb dL_law_680 rfl (lv_at hl 1 rfl) ?_
  refine lv_aload_n hx hb dL_law_681 rfl (lv_at hl 3 rfl) ?_
  refine lv_iload_n hx hb dL_law_682 rfl (lv_at hl 0 rfl) ?_
  refine lv_iconst (v := 1) hx hb dL_law_683 (by decide) ?_
  refine lv_iadd hx hb dL_law_684 ?_
  refine va_sld hx hb hX hbl hbA hS (vinT (by rw [hk1]; omega)) dL_law_685 ?_
  refine lv_topi (fun a1_1 ea1_1 => ?_)
  obtain rfl : a1_0 = a1_1 := ea1_0.trans ea1_1.symm
  refine lv_aload_n hx hb dL_law_686 rfl (lv_at hl 3 rfl) ?_
  refine lv_iload_n hx hb dL_law_687 rfl (lv_at hl 0 rfl) ?_
  refine lv_iconst (v := 2) hx hb dL_law_688 (by decide) ?_
  refine lv_iadd hx hb dL_law_689 ?_
  refine va_sld hx hb hX hbl hbA hS (vinT (by rw [hk2]; omega)) dL_law_690 ?_
  refine lv_topi (fun a2_1 ea2_1 => ?_)
  obtain rfl : a2_0 = a2_1 := ea2_0.trans ea2_1.symm
  refine lawVi (E := (eM l G k tM aX aV)) (b := g0) (As := [.int a1_0, .int a2_0]) (rest := []) F hK hN hOm hTm (c_X7_store (eM l G k tM aX aV) (xD 6600 W0) (xD 1320 V0) (xD 660 A0) (xD 660 B1) m_second (xB 400 T) (xZ 2 K0) (u, u) (0, 18) (((-2147483648), 2147483647)) (t, t) (((-2147483648), 2147483647)) (0, 4000) (((-2147483648), 2147483647)) (((-2147483648), 2147483647)) (0, 1) X0 g0 a1_0 a2_0 (List.mem_singleton.mpr hg0) hX0) mv_X7_store wd_41_22 ⟨Nat.le_of_ble_eq_true rfl, Nat.le_of_ble_eq_true rfl⟩ ⟨Nat.le_of_ble_eq_true rfl, Nat.le_of_ble_eq_true rfl⟩ hM hS (tRecv hK hM (by rw [show eT (eM l G k tM aX aV) g0 = 24 from hg0]; rfl) clX7) rfl hl.1 (Nat.le_of_ble_eq_true rfl) dL_law_691 (fun v1 H1 locs hq hk_ hS => ?_)
  obtain ⟨f1_0, hN_⟩ := hq
  have hC := keptC hdis hC hk_
  have hM : TH (eM l G k tM aX aV) (tbM (mD (.inl (t, t)) (.inl (-2147483648, 2147483647)) (.inl (-2147483648, 2147483647)) (.inl (u, u)) (.inl (0, 18)) (.inl (-2147483648, 2147483647)) (.inl (0, 4000)) (.inl (-2147483648, 2147483647)) (.inl (0, 1))) (xD 660 X0) (xD 6600 W0) (xD 1320 V0) (xD 660 A0) (xD 660 B1) m_second (xB 400 T) (xZ 2 K0)) H1 := hN_
  refine lv_pop hx hb dL_law_694 rfl ?_
  refine lv_goto (tgt := 1529) hx hb dL_law_695 (by decide) ?_
  have hG_ : ((kr = [26] ∧ ks = [27]) ∨ (kr = [27] ∧ ks = [26])) ∧ (0 ≤ kb ∧ kb ≤ 3) ∧ (0 ≤ x1 ∧ x1 ≤ 12) ∧ (0 ≤ y1 ∧ y1 ≤ 14) ∧ (0 ≤ x2 ∧ x2 ≤ 12) ∧ (0 ≤ y2 ∧ y2 ≤ 14) ∧ (0 ≤ x3 ∧ x3 ≤ 12) ∧ (0 ≤ y3 ∧ y3 ≤ 14) ∧ (0 ≤ x4 ∧ x4 ≤ 12) ∧ (0 ≤ y4 ∧ y4 ≤ 14) ∧ ivP 12 (-2) 11 Da1 ∧ ivP 12 (-2147483648) 2147483647 Sa1 ∧ ivP 48 (-2147483648) 2147483647 Qa1 ∧ ivP 12 (-2) 11 Da2 ∧ ivP 12 (-2147483648) 2147483647 Sa2 ∧ ivP 48 (-2147483648) 2147483647 Qa2 ∧ ivP 12 (-2) 11 Da3 ∧ ivP 12 (-2147483648) 2147483647 Sa3 ∧ ivP 48 (-2147483648) 2147483647 Qa3 ∧ ivP 12 (-2) 11 Da4 ∧ ivP 12 (-2147483648) 2147483647 Sa4 ∧ ivP 48 (-2147483648) 2147483647 Qa4 := ⟨hkk, (by omega), (by omega), (by omega), (by omega), (by omega), (by omega), (by omega), (by omega), (by omega), hDa1, hSa1, hQa1, hDa2, hSa2, hQa2, hDa3, hSa3, hQa3, hDa4, hSa4, hQa4⟩
  exact hend t T (kr, ks, kb, x1, y1, x2, y2, x3, y3, x4, y4, Da1, Sa1, Qa1, Da2, Sa2, Qa2, Da3, Sa3, Qa3, Da4, Sa4, Qa4) _ _ ⟨(by omega), hT8⟩ hG_ hC ⟨X0, W0, V0, A0, B1, K0, Z, Y0, Y1, u, (by omega), hX0, hW0, hV0, hA0, hK0, hqX0, hmW0, hy0, hy1, hTie, hM⟩ hS
set_option maxHeartbeats 4000000 in
set_option maxRecDepth 100000 in
theorem law_c16 {pg_ : Program} {l : Launch} {ev_ : Env} {s : State} {mi_ : MethodId} {below_ : List Frame} {meth : Method} {cd_ : Code} {H : Heap} {locs : List Loc} {ls : Array Slot} {b L : Nat} {xs : Nat → Int32} {G : va_G} {k : Nat → ClassId} {tC tM aX aV : Nat → Nat} {h0 g0 : Nat} {i : Int32} {t : Int} {T : RwF} {g : Gs} (B0 : LB pg_ s mi_ meth cd_ b L xs l G k tC tM aX aV h0 g0) (hi : 0 ≤ i.toInt ∧ i.toInt + 6 ≤ L) (ht : (0 ≤ t ∧ t ≤ 400) ∧ ivP 400 (-128) 127 T) (hg : Gok g) (hC : Cs (eC l G k tC aX aV) t T g H) (hMs : Ms (eM l G k tM aX aV) t T g H) (hS : va_S (lawA s) s.heap H locs) (hl : lv_has ls 4 [(3, .int i), (2, .ref g0), (1, .ref h0), (0, .ref b)]) (hend : ∀ (t : Int) (T : RwF) (g : Gs) (H : Heap) (locs : List Loc), ((0 ≤ t ∧ t ≤ 400) ∧ ivP 400 (-128) 127 T) → Gok g → Cs (eC l G k tC aX aV) t T g H → Ms (eM l G k tM aX aV) t T g H → va_S (lawA s) s.heap H locs → W pg_ l ev_ room_1 s mi_ #[Value.ref b] below_ meth cd_ H locs 294 18964 (lw_Z below_ #[Value.ref b] s) (F0 mi_ 1529 ls [])) : W pg_ l ev_ room_1 s mi_ #[Value.ref b] below_ meth cd_ H locs 294 18964 (lw_Z below_ #[Value.ref b] s) (F0 mi_ 698 ls []) := by
  obtain ⟨F, hK, hN, hOc, hOm, hX, hbl, hL, hTc, hTm, hdis, hh0, hg0⟩ := id B0
  obtain ⟨hx, hb, hr, hml, hown, hlk, hw, -⟩ := id F
  have hbA : ¬ lawA s b := fun q => absurd q (by unfold lawA; omega)
  obtain ⟨kr, ks, kb, x1, y1, x2, y2, x3, y3, x4, y4, Da1, Sa1, Qa1, Da2, Sa2, Qa2, Da3, Sa3, Qa3, Da4, Sa4, Qa4⟩ := g
  obtain ⟨X0, W0, V0, A0, B1, K0, Z, Y0, Y1, u, hu, hX0, hW0, hV0, hA0, hK0, hqX0, hmW0, hy0, hy1, hTie0, hM⟩ := hMs
  obtain ⟨ht, hT8⟩ := ht
  have hg : ((kr = [26] ∧ ks = [27]) ∨ (kr = [27] ∧ ks = [26])) ∧ (0 ≤ kb ∧ kb ≤ 3) ∧ (0 ≤ x1 ∧ x1 ≤ 12) ∧ (0 ≤ y1 ∧ y1 ≤ 14) ∧ (0 ≤ x2 ∧ x2 ≤ 12) ∧ (0 ≤ y2 ∧ y2 ≤ 14) ∧ (0 ≤ x3 ∧ x3 ≤ 12) ∧ (0 ≤ y3 ∧ y3 ≤ 14) ∧ (0 ≤ x4 ∧ x4 ≤ 12) ∧ (0 ≤ y4 ∧ y4 ≤ 14) ∧ ivP 12 (-2) 11 Da1 ∧ ivP 12 (-2147483648) 2147483647 Sa1 ∧ ivP 48 (-2147483648) 2147483647 Qa1 ∧ ivP 12 (-2) 11 Da2 ∧ ivP 12 (-2147483648) 2147483647 Sa2 ∧ ivP 48 (-2147483648) 2147483647 Qa2 ∧ ivP 12 (-2) 11 Da3 ∧ ivP 12 (-2147483648) 2147483647 Sa3 ∧ ivP 48 (-2147483648) 2147483647 Qa3 ∧ ivP 12 (-2) 11 Da4 ∧ ivP 12 (-2147483648) 2147483647 Sa4 ∧ ivP 48 (-2147483648) 2147483647 Qa4 := hg
  obtain ⟨hkk, hkb, hx1, hy1_, hx2, hy2_, hx3, hy3_, hx4, hy4_, hDa1, hSa1, hQa1, hDa2, hSa2, hQa2, hDa3, hSa3, hQa3, hDa4, hSa4, hQa4⟩ := hg
  have hC : TH (eC l G k tC aX aV) (tbC (dayD (.inl (0, 18))) (dayD (.inl (0, 18))) (riverD (.inl (x1, x1)) (.inl (y1, y1)) (.inl (0, 4)) 31 33 35 39 43 47) (riverD (.inl (x2, x2)) (.inl (y2, y2)) (.inl (0, 4)) 32 34 36 40 44 48) (rcD (.inl (t, t)) (.inr kr) (.inr ks) (.inl (kb, kb))) (rdD (.inl (0, 400)) (.inl (0, 400)) (.inl (0, 4000)) (.inl (0, 1)) (.inr [26, 27])) (xB 400 T) A14F A14F A4F A4F A14F A14F (riverD (.inl (x3, x3)) (.inl (y3, y3)) (.inl (0, 4)) 3 8 3 41 45 49) (riverD (.inl (x4, x4)) (.inl (y4, y4)) (.inl (0, 4)) 3 8 3 42 46 50) (xD 12 Da1) (xD 12 Da2) (xD 12 Da3) (xD 12 Da4) (xD 12 Sa1) (xD 12 Sa2) (xD 12 Sa3) (xD 12 Sa4) (xD 48 Qa1) (xD 48 Qa2) (xD 48 Qa3) (xD 48 Qa4)) H := hC
  have hTie : (kr = [26] → rowT x1 Da1 Sa1 Qa1 Z) ∧ (kr = [27] → rowT x2 Da2 Sa2 Qa2 Z) ∧ gI K0 0 = kb % 2 ∧ gI K0 1 = kb / 2 ∧ (kb % 2 = 1 → rowT x3 Da3 Sa3 Qa3 Y0) ∧ (kb / 2 = 1 → rowT x4 Da4 Sa4 Qa4 Y1) := hTie0
  clear hTie0
  have hk1 : (i + 1).toInt = i.toInt + 1 := by
    have h1 := i_add (x := i) (y := 1) (by rw [show (1 : Int32).toInt = 1 by decide]; omega) (by rw [show (1 : Int32).toInt = 1 by decide]; omega)
    rw [show (1 : Int32).toInt = 1 by decide] at h1
    exact h1
  have hk2 : (i + 2).toInt = i.toInt + 2 := by
    have h1 := i_add (x := i) (y := 2) (by rw [show (2 : Int32).toInt = 2 by decide]; omega) (by rw [show (2 : Int32).toInt = 2 by decide]; omega)
    rw [show (2 : Int32).toInt = 2 by decide] at h1
    exact h1
  refine lv_aload_n hx hb dL_law_698 rfl (lv_at hl 2 rfl) ?_
  refine lv_aload_n hx hb dL_law_699 rfl (lv_at hl 3 rfl) ?_
  refine lv_iload_n hx hb dL_law_700 rfl (lv_at hl 0 rfl) ?_
  refine lv_iconst (v := 1) hx hb dL_law_701 (by decide) ?_
  refine lv_iadd hx hb dL_law_702 ?_
  refine va_sld hx hb hX hbl hbA hS (vinT (by rw [hk1]; omega)) dL_law_703 ?_
  refine lv_topi (fun a1_0 ea1_0 => ?_)
  refine lv_aload_n hx hb dL_law_704 rfl (lv_at hl 3 rfl) ?_
  refine lv_iload_n hx hb dL_law_705 rfl (lv_at hl 0 rfl) ?_
  refine lv_iconst (v := 2) hx hb dL_law_706 (by decide) ?_
  refine lv_iadd hx hb dL_law_707 ?_
  refine va_sld hx hb hX hbl hbA hS (vinT (by rw [hk2]; omega)) dL_law_708 ?_
  refine lv_topi (fun a2_0 ea2_0 => ?_)
  have hkr : ∀ t ∈ kr, t ∈ [26, 27] := by rcases hkk with ⟨h9_, -⟩ | ⟨h9_, -⟩ <;> rw [h9_] <;> decide
  have hks : ∀ t ∈ ks, t ∈ [26, 27] := by rcases hkk with ⟨-, h9_⟩ | ⟨-, h9_⟩ <;> rw [h9_] <;> decide
  refine lawVi (E := (eC l G k tC aX aV)) (b := h0) (As := [.int a1_0, .int a2_0]) (rest := []) F hK hN hOc hTc (c_X6_flow (eC l G k tC aX aV) (rdD (.inl (0, 400)) (.inl (0, 400)) (.inl (0, 4000)) (.inl (0, 1)) (.inr [26, 27])) (xB 400 T) (kb, kb) (x1, x1) (y1, y1) (x2, x2) (y2, y2) (x3, x3) (y3, y3) (x4, x4) (y4, y4) kr ks (fun f_ => f_ = Da1) (fun f_ => f_ = Da2) (fun f_ => f_ = Da3) (fun f_ => f_ = Da4) (fun f_ => f_ = Sa1) (fun f_ => f_ = Sa2) (fun f_ => f_ = Sa3) (fun f_ => f_ = Sa4) (fun f_ => f_ = Qa1) (fun f_ => f_ = Qa2) (fun f_ => f_ = Qa3) (fun f_ => f_ = Qa4) t h0 a1_0 a2_0 (List.mem_singleton.mpr hh0) (by omega) (by show 0 ≤ x1 ∧ x1 ≤ 12; omega) (by show 0 ≤ y1 ∧ y1 ≤ 14; omega) (by show 0 ≤ x2 ∧ x2 ≤ 12; omega) (by show 0 ≤ y2 ∧ y2 ≤ 14; omega) (by show 0 ≤ x3 ∧ x3 ≤ 12; omega) (by show 0 ≤ y3 ∧ y3 ≤ 14; omega) (by show 0 ≤ x4 ∧ x4 ≤ 12; omega) (by show 0 ≤ y4 ∧ y4 ≤ 14; omega) hkr hks (fun f_ h_ => ivX hDa1 h_) (fun f_ h_ => ivX hDa2 h_) (fun f_ h_ => ivX hDa3 h_) (fun f_ h_ => ivX hDa4 h_) (fun f_ h_ => ivX hSa1 h_) (fun f_ h_ => ivX hSa2 h_) (fun f_ h_ => ivX hSa3 h_) (fun f_ h_ => ivX hSa4 h_) (fun f_ h_ => ivX hQa1 h_) (fun f_ h_ => ivX hQa2 h_) (fun f_ h_ => ivX hQa3 h_) (fun f_ h_ => ivX hQa4 h_)) mv_X6_flow wd_42_3 ⟨Nat.le_of_ble_eq_true rfl, Nat.le_of_ble_eq_true rfl⟩ ⟨Nat.le_of_ble_eq_true rfl, Nat.le_of_ble_eq_true rfl⟩ hC hS (tRecv hK hC (by rw [show eT (eC l G k tC aX aV) h0 = 28 from hh0]; rfl) clX6) rfl hl.1 (Nat.le_of_ble_eq_true rfl) dL_law_709 (fun v0 H1 locs hq hk_ hS => ?_)
  obtain ⟨f0_0, hN_⟩ := hq
  have hM := keptM hdis hM hk_
  have hC : TH (eC l G k tC aX aV) (tbC (dayD (.inl (0, 18))) (dayD (.inl (0, 18))) (riverD (.inl (x1, x1)) (.inl (y1, y1)) (.inl (0, 4)) 31 33 35 39 43 47) (riverD (.inl (x2, x2)) (.inl (y2, y2)) (.inl (0, 4)) 32 34 36 40 44 48) (rcD (.inl (t, t)) (.inr kr) (.inr ks) (.inl (kb, kb))) (rdD (.inl (0, 400)) (.inl (0, 400)) (.inl (0, 4000)) (.inl (0, 1)) (.inr [26, 27])) (xB 400 T) A14F A14F A4F A4F A14F A14F (riverD (.inl (x3, x3)) (.inl (y3, y3)) (.inl (0, 4)) 3 8 3 41 45 49) (riverD (.inl (x4, x4)) (.inl (y4, y4)) (.inl (0, 4)) 3 8 3 42 46 50) (xD 12 Da1) (xD 12 Da2) (xD 12 Da3) (xD 12 Da4) (xD 12 Sa1) (xD 12 Sa2) (xD 12 Sa3) (xD 12 Sa4) (xD 48 Qa1) (xD 48 Qa2) (xD 48 Qa3) (xD 48 Qa4)) H1 := hN_
  refine lv_pop hx hb dL_law_712 rfl ?_
  refine lv_aload_n hx hb dL_law_713 rfl (lv_at hl 1 rfl) ?_
  refine lv_aload_n hx hb dL_law_714 rfl (lv_at hl 3 rfl) ?_
  refine lv_iload_n hx hb dL_law_715 rfl (lv_at hl 0 rfl) ?_
  refine lv_iconst (v := 1) hx hb dL_law_716 (by decide) ?_
  refine lv_iadd hx hb dL_law_717 ?_
  refine va_sld hx hb hX hbl hbA hS (vinT (by rw [hk1]; omega)) dL_law_718 ?_
  refine lv_topi (fun a1_1 ea1_1 => ?_)
  obtain rfl : a1_0 = a1_1 := ea1_0.trans ea1_1.symm
  refine lv_aload_n hx hb dL_law_719 rfl (lv_at hl 3 rfl) ?_
  refine lv_iload_n hx hb dL_law_720 rfl (lv_at hl 0 rfl) ?_
  refine lv_iconst (v := 2) hx hb dL_law_721 (by decide) ?_
  refine lv_iadd hx hb dL_law_722 ?_
  refine va_sld hx hb hX hbl hbA hS (vinT (by rw [hk2]; omega)) dL_law_723 ?_
  refine lv_topi (fun a2_1 ea2_1 => ?_)
  obtain rfl : a2_0 = a2_1 := ea2_0.trans ea2_1.symm
  refine lawVi (E := (eM l G k tM aX aV)) (b := g0) (As := [.int a1_0, .int a2_0]) (rest := []) F hK hN hOm hTm (c_X7_flow (eM l G k tM aX aV) (xD 6600 W0) (xD 1320 V0) (xD 660 A0) (xD 660 B1) (xB 400 T) (xZ 2 K0) (u, u) (((-2147483648), 2147483647)) (t, t) (((-2147483648), 2147483647)) (0, 4000) (((-2147483648), 2147483647)) (((-2147483648), 2147483647)) (0, 1) X0 g0 a1_0 a2_0 (List.mem_singleton.mpr hg0) hX0) mv_X7_flow wd_42_19 ⟨Nat.le_of_ble_eq_true rfl, Nat.le_of_ble_eq_true rfl⟩ ⟨Nat.le_of_ble_eq_true rfl, Nat.le_of_ble_eq_true rfl⟩ hM hS (tRecv hK hM (by rw [show eT (eM l G k tM aX aV) g0 = 24 from hg0]; rfl) clX7) rfl hl.1 (Nat.le_of_ble_eq_true rfl) dL_law_724 (fun v1 H1 locs hq hk_ hS => ?_)
  obtain ⟨f1_0, hN_⟩ := hq
  have hC := keptC hdis hC hk_
  have hM : TH (eM l G k tM aX aV) (tbM (mD (.inl (t, t)) (.inl (-2147483648, 2147483647)) (.inl (-2147483648, 2147483647)) (.inl (u, u)) (.inl (0, 18)) (.inl (-2147483648, 2147483647)) (.inl (0, 4000)) (.inl (-2147483648, 2147483647)) (.inl (0, 1))) (xD 660 X0) (xD 6600 W0) (xD 1320 V0) (xD 660 A0) (xD 660 B1) m_second (xB 400 T) (xZ 2 K0)) H1 := hN_
  refine lv_pop hx hb dL_law_727 rfl ?_
  refine lv_goto (tgt := 1529) hx hb dL_law_728 (by decide) ?_
  have hG_ : ((kr = [26] ∧ ks = [27]) ∨ (kr = [27] ∧ ks = [26])) ∧ (0 ≤ kb ∧ kb ≤ 3) ∧ (0 ≤ x1 ∧ x1 ≤ 12) ∧ (0 ≤ y1 ∧ y1 ≤ 14) ∧ (0 ≤ x2 ∧ x2 ≤ 12) ∧ (0 ≤ y2 ∧ y2 ≤ 14) ∧ (0 ≤ x3 ∧ x3 ≤ 12) ∧ (0 ≤ y3 ∧ y3 ≤ 14) ∧ (0 ≤ x4 ∧ x4 ≤ 12) ∧ (0 ≤ y4 ∧ y4 ≤ 14) ∧ ivP 12 (-2) 11 Da1 ∧ ivP 12 (-2147483648) 2147483647 Sa1 ∧ ivP 48 (-2147483648) 2147483647 Qa1 ∧ ivP 12 (-2) 11 Da2 ∧ ivP 12 (-2147483648) 2147483647 Sa2 ∧ ivP 48 (-2147483648) 2147483647 Qa2 ∧ ivP 12 (-2) 11 Da3 ∧ ivP 12 (-2147483648) 2147483647 Sa3 ∧ ivP 48 (-2147483648) 2147483647 Qa3 ∧ ivP 12 (-2) 11 Da4 ∧ ivP 12 (-2147483648) 2147483647 Sa4 ∧ ivP 48 (-2147483648) 2147483647 Qa4 := ⟨hkk, (by omega), (by omega), (by omega), (by omega), (by omega), (by omega), (by omega), (by omega), (by omega), hDa1, hSa1, hQa1, hDa2, hSa2, hQa2, hDa3, hSa3, hQa3, hDa4, hSa4, hQa4⟩
  exact hend t T (kr, ks, kb, x1, y1, x2, y2, x3, y3, x4, y4, Da1, Sa1, Qa1, Da2, Sa2, Qa2, Da3, Sa3, Qa3, Da4, Sa4, Qa4) _ _ ⟨(by omega), hT8⟩ hG_ hC ⟨X0, W0, V0, A0, B1, K0, Z, Y0, Y1, u, (by omega), hX0, hW0, hV0, hA0, hK0, hqX0, hmW0, hy0, hy1, hTie, hM⟩ hS
set_option maxHeartbeats 4000000 in
set_option maxRecDepth 100000 in
theorem law_c17 {pg_ : Program} {l : Launch} {ev_ : Env} {s : State} {mi_ : MethodId} {below_ : List Frame} {meth : Method} {cd_ : Code} {H : Heap} {locs : List Loc} {ls : Array Slot} {b L : Nat} {xs : Nat → Int32} {G : va_G} {k : Nat → ClassId} {tC tM aX aV : Nat → Nat} {h0 g0 : Nat} {i : Int32} {t : Int} {T : RwF} {g : Gs} (B0 : LB pg_ s mi_ meth cd_ b L xs l G k tC tM aX aV h0 g0) (hi : 0 ≤ i.toInt ∧ i.toInt + 6 ≤ L) (ht : (0 ≤ t ∧ t ≤ 400) ∧ ivP 400 (-128) 127 T) (hg : Gok g) (hC : Cs (eC l G k tC aX aV) t T g H) (hMs : Ms (eM l G k tM aX aV) t T g H) (hS : va_S (lawA s) s.heap H locs) (hl : lv_has ls 4 [(3, .int i), (2, .ref g0), (1, .ref h0), (0, .ref b)]) (hend : ∀ (t : Int) (T : RwF) (g : Gs) (H : Heap) (locs : List Loc), ((0 ≤ t ∧ t ≤ 400) ∧ ivP 400 (-128) 127 T) → Gok g → Cs (eC l G k tC aX aV) t T g H → Ms (eM l G k tM aX aV) t T g H → va_S (lawA s) s.heap H locs → W pg_ l ev_ room_1 s mi_ #[Value.ref b] below_ meth cd_ H locs 294 18964 (lw_Z below_ #[Value.ref b] s) (F0 mi_ 1529 ls [])) : W pg_ l ev_ room_1 s mi_ #[Value.ref b] below_ meth cd_ H locs 294 18964 (lw_Z below_ #[Value.ref b] s) (F0 mi_ 731 ls []) := by
  obtain ⟨F, hK, hN, hOc, hOm, hX, hbl, hL, hTc, hTm, hdis, hh0, hg0⟩ := id B0
  obtain ⟨hx, hb, hr, hml, hown, hlk, hw, -⟩ := id F
  have hbA : ¬ lawA s b := fun q => absurd q (by unfold lawA; omega)
  obtain ⟨kr, ks, kb, x1, y1, x2, y2, x3, y3, x4, y4, Da1, Sa1, Qa1, Da2, Sa2, Qa2, Da3, Sa3, Qa3, Da4, Sa4, Qa4⟩ := g
  obtain ⟨X0, W0, V0, A0, B1, K0, Z, Y0, Y1, u, hu, hX0, hW0, hV0, hA0, hK0, hqX0, hmW0, hy0, hy1, hTie0, hM⟩ := hMs
  obtain ⟨ht, hT8⟩ := ht
  have hg : ((kr = [26] ∧ ks = [27]) ∨ (kr = [27] ∧ ks = [26])) ∧ (0 ≤ kb ∧ kb ≤ 3) ∧ (0 ≤ x1 ∧ x1 ≤ 12) ∧ (0 ≤ y1 ∧ y1 ≤ 14) ∧ (0 ≤ x2 ∧ x2 ≤ 12) ∧ (0 ≤ y2 ∧ y2 ≤ 14) ∧ (0 ≤ x3 ∧ x3 ≤ 12) ∧ (0 ≤ y3 ∧ y3 ≤ 14) ∧ (0 ≤ x4 ∧ x4 ≤ 12) ∧ (0 ≤ y4 ∧ y4 ≤ 14) ∧ ivP 12 (-2) 11 Da1 ∧ ivP 12 (-2147483648) 2147483647 Sa1 ∧ ivP 48 (-2147483648) 2147483647 Qa1 ∧ ivP 12 (-2) 11 Da2 ∧ ivP 12 (-2147483648) 2147483647 Sa2 ∧ ivP 48 (-2147483648) 2147483647 Qa2 ∧ ivP 12 (-2) 11 Da3 ∧ ivP 12 (-2147483648) 2147483647 Sa3 ∧ ivP 48 (-2147483648) 2147483647 Qa3 ∧ ivP 12 (-2) 11 Da4 ∧ ivP 12 (-2147483648) 2147483647 Sa4 ∧ ivP 48 (-2147483648) 2147483647 Qa4 := hg
  obtain ⟨hkk, hkb, hx1, hy1_, hx2, hy2_, hx3, hy3_, hx4, hy4_, hDa1, hSa1, hQa1, hDa2, hSa2, hQa2, hDa3, hSa3, hQa3, hDa4, hSa4, hQa4⟩ := hg
  have hC : TH (eC l G k tC aX aV) (tbC (dayD (.inl (0, 18))) (dayD (.inl (0, 18))) (riverD (.inl (x1, x1)) (.inl (y1, y1)) (.inl (0, 4)) 31 33 35 39 43 47) (riverD (.inl (x2, x2)) (.inl (y2, y2)) (.inl (0, 4)) 32 34 36 40 44 48) (rcD (.inl (t, t)) (.inr kr) (.inr ks) (.inl (kb, kb))) (rdD (.inl (0, 400)) (.inl (0, 400)) (.inl (0, 4000)) (.inl (0, 1)) (.inr [26, 27])) (xB 400 T) A14F A14F A4F A4F A14F A14F (riverD (.inl (x3, x3)) (.inl (y3, y3)) (.inl (0, 4)) 3 8 3 41 45 49) (riverD (.inl (x4, x4)) (.inl (y4, y4)) (.inl (0, 4)) 3 8 3 42 46 50) (xD 12 Da1) (xD 12 Da2) (xD 12 Da3) (xD 12 Da4) (xD 12 Sa1) (xD 12 Sa2) (xD 12 Sa3) (xD 12 Sa4) (xD 48 Qa1) (xD 48 Qa2) (xD 48 Qa3) (xD 48 Qa4)) H := hC
  have hTie : (kr = [26] → rowT x1 Da1 Sa1 Qa1 Z) ∧ (kr = [27] → rowT x2 Da2 Sa2 Qa2 Z) ∧ gI K0 0 = kb % 2 ∧ gI K0 1 = kb / 2 ∧ (kb % 2 = 1 → rowT x3 Da3 Sa3 Qa3 Y0) ∧ (kb / 2 = 1 → rowT x4 Da4 Sa4 Qa4 Y1) := hTie0
  clear hTie0
  have hk1 : (i + 1).toInt = i.toInt + 1 := by
    have h1 := i_add (x := i) (y := 1) (by rw [show (1 : Int32).toInt = 1 by decide]; omega) (by rw [show (1 : Int32).toInt = 1 by decide]; omega)
    rw [show (1 : Int32).toInt = 1 by decide] at h1
    exact h1
  have hk2 : (i + 2).toInt = i.toInt + 2 := by
    have h1 := i_add (x := i) (y := 2) (by rw [show (2 : Int32).toInt = 2 by decide]; omega) (by rw [show (2 : Int32).toInt = 2 by decide]; omega)
    rw [show (2 : Int32).toInt = 2 by decide] at h1
    exact h1
  refine lv_aload_n hx hb dL_law_731 rfl (lv_at hl 2 rfl) ?_
  refine lv_aload_n hx hb dL_law_732 rfl (lv_at hl 3 rfl) ?_
  refine lv_iload_n hx hb dL_law_733 rfl (lv_at hl 0 rfl) ?_
  refine lv_iconst (v := 1) hx hb dL_law_734 (by decide) ?_
  refine lv_iadd hx hb dL_law_735 ?_
  refine va_sld hx hb hX hbl hbA hS (vinT (by rw [hk1]; omega)) dL_law_736 ?_
  refine lv_topi (fun a1_0 ea1_0 => ?_)
  refine lv_aload_n hx hb dL_law_737 rfl (lv_at hl 3 rfl) ?_
  refine lv_iload_n hx hb dL_law_738 rfl (lv_at hl 0 rfl) ?_
  refine lv_iconst (v := 2) hx hb dL_law_739 (by decide) ?_
  refine lv_iadd hx hb dL_law_740 ?_
  refine va_sld hx hb hX hbl hbA hS (vinT (by rw [hk2]; omega)) dL_law_741 ?_
  refine lv_topi (fun a2_0 ea2_0 => ?_)
  have hkr : ∀ t ∈ kr, t ∈ [26, 27] := by rcases hkk with ⟨h9_, -⟩ | ⟨h9_, -⟩ <;> rw [h9_] <;> decide
  have hks : ∀ t ∈ ks, t ∈ [26, 27] := by rcases hkk with ⟨-, h9_⟩ | ⟨-, h9_⟩ <;> rw [h9_] <;> decide
  refine lawVi (E := (eC l G k tC aX aV)) (b := h0) (As := [.int a1_0, .int a2_0]) (rest := []) F hK hN hOc hTc (c_X6_takes (eC l G k tC aX aV) (rdD (.inl (0, 400)) (.inl (0, 400)) (.inl (0, 4000)) (.inl (0, 1)) (.inr [26, 27])) (xB 400 T) (kb, kb) (x1, x1) (y1, y1) (x2, x2) (y2, y2) (x3, x3) (y3, y3) (x4, x4) (y4, y4) kr ks (fun f_ => f_ = Da1) (fun f_ => f_ = Da2) (fun f_ => f_ = Da3) (fun f_ => f_ = Da4) (fun f_ => f_ = Sa1) (fun f_ => f_ = Sa2) (fun f_ => f_ = Sa3) (fun f_ => f_ = Sa4) (fun f_ => f_ = Qa1) (fun f_ => f_ = Qa2) (fun f_ => f_ = Qa3) (fun f_ => f_ = Qa4) t h0 a1_0 a2_0 (List.mem_singleton.mpr hh0) (by omega) (by show 0 ≤ x1 ∧ x1 ≤ 12; omega) (by show 0 ≤ y1 ∧ y1 ≤ 14; omega) (by show 0 ≤ x2 ∧ x2 ≤ 12; omega) (by show 0 ≤ y2 ∧ y2 ≤ 14; omega) (by show 0 ≤ x3 ∧ x3 ≤ 12; omega) (by show 0 ≤ y3 ∧ y3 ≤ 14; omega) (by show 0 ≤ x4 ∧ x4 ≤ 12; omega) (by show 0 ≤ y4 ∧ y4 ≤ 14; omega) hkr hks (fun f_ h_ => ivX hDa1 h_) (fun f_ h_ => ivX hDa2 h_) (fun f_ h_ => ivX hDa3 h_) (fun f_ h_ => ivX hDa4 h_) (fun f_ h_ => ivX hSa1 h_) (fun f_ h_ => ivX hSa2 h_) (fun f_ h_ => ivX hSa3 h_) (fun f_ h_ => ivX hSa4 h_) (fun f_ h_ => ivX hQa1 h_) (fun f_ h_ => ivX hQa2 h_) (fun f_ h_ => ivX hQa3 h_) (fun f_ h_ => ivX hQa4 h_)) mv_X6_takes wd_42_23 ⟨Nat.le_of_ble_eq_true rfl, Nat.le_of_ble_eq_true rfl⟩ ⟨Nat.le_of_ble_eq_true rfl, Nat.le_of_ble_eq_true rfl⟩ hC hS (tRecv hK hC (by rw [show eT (eC l G k tC aX aV) h0 = 28 from hh0]; rfl) clX6) rfl hl.1 (Nat.le_of_ble_eq_true rfl) dL_law_742 (fun v0 H1 locs hq hk_ hS => ?_)
  obtain ⟨f0_0, hN_⟩ := hq
  have hM := keptM hdis hM hk_
  have hC : TH (eC l G k tC aX aV) (tbC (dayD (.inl (0, 18))) (dayD (.inl (0, 18))) (riverD (.inl (x1, x1)) (.inl (y1, y1)) (.inl (0, 4)) 31 33 35 39 43 47) (riverD (.inl (x2, x2)) (.inl (y2, y2)) (.inl (0, 4)) 32 34 36 40 44 48) (rcD (.inl (t, t)) (.inr kr) (.inr ks) (.inl (kb, kb))) (rdD (.inl (0, 400)) (.inl (0, 400)) (.inl (0, 4000)) (.inl (0, 1)) (.inr [26, 27])) (xB 400 T) A14F A14F A4F A4F A14F A14F (riverD (.inl (x3, x3)) (.inl (y3, y3)) (.inl (0, 4)) 3 8 3 41 45 49) (riverD (.inl (x4, x4)) (.inl (y4, y4)) (.inl (0, 4)) 3 8 3 42 46 50) (xD 12 Da1) (xD 12 Da2) (xD 12 Da3) (xD 12 Da4) (xD 12 Sa1) (xD 12 Sa2) (xD 12 Sa3) (xD 12 Sa4) (xD 48 Qa1) (xD 48 Qa2) (xD 48 Qa3) (xD 48 Qa4)) H1 := hN_
  refine lv_pop hx hb dL_law_745 rfl ?_
  refine lv_aload_n hx hb dL_law_746 rfl (lv_at hl 1 rfl) ?_
  refine lv_aload_n hx hb dL_law_747 rfl (lv_at hl 3 rfl) ?_
  refine lv_iload_n hx hb dL_law_748 rfl (lv_at hl 0 rfl) ?_
  refine lv_iconst (v := 1) hx hb dL_law_749 (by decide) ?_
  refine lv_iadd hx hb dL_law_750 ?_
  refine va_sld hx hb hX hbl hbA hS (vinT (by rw [hk1]; omega)) dL_law_751 ?_
  refine lv_topi (fun a1_1 ea1_1 => ?_)
  obtain rfl : a1_0 = a1_1 := ea1_0.trans ea1_1.symm
  refine lv_aload_n hx hb dL_law_752 rfl (lv_at hl 3 rfl) ?_
  refine lv_iload_n hx hb dL_law_753 rfl (lv_at hl 0 rfl) ?_
  refine lv_iconst (v := 2) hx hb dL_law_754 (by decide) ?_
  refine lv_iadd hx hb dL_law_755 ?_
  refine va_sld hx hb hX hbl hbA hS (vinT (by rw [hk2]; omega)) dL_law_756 ?_
  refine lv_topi (fun a2_1 ea2_1 => ?_)
  obtain rfl : a2_0 = a2_1 := ea2_0.trans ea2_1.symm
  refine lawVi (E := (eM l G k tM aX aV)) (b := g0) (As := [.int a1_0, .int a2_0]) (rest := []) F hK hN hOm hTm (c_X7_takes (eM l G k tM aX aV) (xD 6600 W0) (xD 1320 V0) (xD 660 A0) (xD 660 B1) (xB 400 T) (xZ 2 K0) (u, u) (((-2147483648), 2147483647)) (t, t) (((-2147483648), 2147483647)) (0, 4000) (((-2147483648), 2147483647)) (((-2147483648), 2147483647)) (0, 1) X0 g0 a1_0 a2_0 (List.mem_singleton.mpr hg0) hX0) mv_X7_takes wd_43_8 ⟨Nat.le_of_ble_eq_true rfl, Nat.le_of_ble_eq_true rfl⟩ ⟨Nat.le_of_ble_eq_true rfl, Nat.le_of_ble_eq_true rfl⟩ hM hS (tRecv hK hM (by rw [show eT (eM l G k tM aX aV) g0 = 24 from hg0]; rfl) clX7) rfl hl.1 (Nat.le_of_ble_eq_true rfl) dL_law_757 (fun v1 H1 locs hq hk_ hS => ?_)
  obtain ⟨f1_0, hN_⟩ := hq
  have hC := keptC hdis hC hk_
  have hM : TH (eM l G k tM aX aV) (tbM (mD (.inl (t, t)) (.inl (-2147483648, 2147483647)) (.inl (-2147483648, 2147483647)) (.inl (u, u)) (.inl (0, 18)) (.inl (-2147483648, 2147483647)) (.inl (0, 4000)) (.inl (-2147483648, 2147483647)) (.inl (0, 1))) (xD 660 X0) (xD 6600 W0) (xD 1320 V0) (xD 660 A0) (xD 660 B1) m_second (xB 400 T) (xZ 2 K0)) H1 := hN_
  refine lv_pop hx hb dL_law_760 rfl ?_
  refine lv_goto (tgt := 1529) hx hb dL_law_761 (by decide) ?_
  have hG_ : ((kr = [26] ∧ ks = [27]) ∨ (kr = [27] ∧ ks = [26])) ∧ (0 ≤ kb ∧ kb ≤ 3) ∧ (0 ≤ x1 ∧ x1 ≤ 12) ∧ (0 ≤ y1 ∧ y1 ≤ 14) ∧ (0 ≤ x2 ∧ x2 ≤ 12) ∧ (0 ≤ y2 ∧ y2 ≤ 14) ∧ (0 ≤ x3 ∧ x3 ≤ 12) ∧ (0 ≤ y3 ∧ y3 ≤ 14) ∧ (0 ≤ x4 ∧ x4 ≤ 12) ∧ (0 ≤ y4 ∧ y4 ≤ 14) ∧ ivP 12 (-2) 11 Da1 ∧ ivP 12 (-2147483648) 2147483647 Sa1 ∧ ivP 48 (-2147483648) 2147483647 Qa1 ∧ ivP 12 (-2) 11 Da2 ∧ ivP 12 (-2147483648) 2147483647 Sa2 ∧ ivP 48 (-2147483648) 2147483647 Qa2 ∧ ivP 12 (-2) 11 Da3 ∧ ivP 12 (-2147483648) 2147483647 Sa3 ∧ ivP 48 (-2147483648) 2147483647 Qa3 ∧ ivP 12 (-2) 11 Da4 ∧ ivP 12 (-2147483648) 2147483647 Sa4 ∧ ivP 48 (-2147483648) 2147483647 Qa4 := ⟨hkk, (by omega), (by omega), (by omega), (by omega), (by omega), (by omega), (by omega), (by omega), (by omega), hDa1, hSa1, hQa1, hDa2, hSa2, hQa2, hDa3, hSa3, hQa3, hDa4, hSa4, hQa4⟩
  exact hend t T (kr, ks, kb, x1, y1, x2, y2, x3, y3, x4, y4, Da1, Sa1, Qa1, Da2, Sa2, Qa2, Da3, Sa3, Qa3, Da4, Sa4, Qa4) _ _ ⟨(by omega), hT8⟩ hG_ hC ⟨X0, W0, V0, A0, B1, K0, Z, Y0, Y1, u, (by omega), hX0, hW0, hV0, hA0, hK0, hqX0, hmW0, hy0, hy1, hTie, hM⟩ hS
set_option maxHeartbeats 4000000 in
set_option maxRecDepth 100000 in
theorem law_c18 {pg_ : Program} {l : Launch} {ev_ : Env} {s : State} {mi_ : MethodId} {below_ : List Frame} {meth : Method} {cd_ : Code} {H : Heap} {locs : List Loc} {ls : Array Slot} {b L : Nat} {xs : Nat → Int32} {G : va_G} {k : Nat → ClassId} {tC tM aX aV : Nat → Nat} {h0 g0 : Nat} {i : Int32} {t : Int} {T : RwF} {g : Gs} (B0 : LB pg_ s mi_ meth cd_ b L xs l G k tC tM aX aV h0 g0) (hi : 0 ≤ i.toInt ∧ i.toInt + 6 ≤ L) (ht : (0 ≤ t ∧ t ≤ 400) ∧ ivP 400 (-128) 127 T) (hg : Gok g) (hC : Cs (eC l G k tC aX aV) t T g H) (hMs : Ms (eM l G k tM aX aV) t T g H) (hS : va_S (lawA s) s.heap H locs) (hl : lv_has ls 4 [(3, .int i), (2, .ref g0), (1, .ref h0), (0, .ref b)]) (hend : ∀ (t : Int) (T : RwF) (g : Gs) (H : Heap) (locs : List Loc), ((0 ≤ t ∧ t ≤ 400) ∧ ivP 400 (-128) 127 T) → Gok g → Cs (eC l G k tC aX aV) t T g H → Ms (eM l G k tM aX aV) t T g H → va_S (lawA s) s.heap H locs → W pg_ l ev_ room_1 s mi_ #[Value.ref b] below_ meth cd_ H locs 294 18964 (lw_Z below_ #[Value.ref b] s) (F0 mi_ 1529 ls [])) : W pg_ l ev_ room_1 s mi_ #[Value.ref b] below_ meth cd_ H locs 294 18964 (lw_Z below_ #[Value.ref b] s) (F0 mi_ 764 ls []) := by
  obtain ⟨F, hK, hN, hOc, hOm, hX, hbl, hL, hTc, hTm, hdis, hh0, hg0⟩ := id B0
  obtain ⟨hx, hb, hr, hml, hown, hlk, hw, -⟩ := id F
  have hbA : ¬ lawA s b := fun q => absurd q (by unfold lawA; omega)
  obtain ⟨kr, ks, kb, x1, y1, x2, y2, x3, y3, x4, y4, Da1, Sa1, Qa1, Da2, Sa2, Qa2, Da3, Sa3, Qa3, Da4, Sa4, Qa4⟩ := g
  obtain ⟨X0, W0, V0, A0, B1, K0, Z, Y0, Y1, u, hu, hX0, hW0, hV0, hA0, hK0, hqX0, hmW0, hy0, hy1, hTie0, hM⟩ := hMs
  obtain ⟨ht, hT8⟩ := ht
  have hg : ((kr = [26] ∧ ks = [27]) ∨ (kr = [27] ∧ ks = [26])) ∧ (0 ≤ kb ∧ kb ≤ 3) ∧ (0 ≤ x1 ∧ x1 ≤ 12) ∧ (0 ≤ y1 ∧ y1 ≤ 14) ∧ (0 ≤ x2 ∧ x2 ≤ 12) ∧ (0 ≤ y2 ∧ y2 ≤ 14) ∧ (0 ≤ x3 ∧ x3 ≤ 12) ∧ (0 ≤ y3 ∧ y3 ≤ 14) ∧ (0 ≤ x4 ∧ x4 ≤ 12) ∧ (0 ≤ y4 ∧ y4 ≤ 14) ∧ ivP 12 (-2) 11 Da1 ∧ ivP 12 (-2147483648) 2147483647 Sa1 ∧ ivP 48 (-2147483648) 2147483647 Qa1 ∧ ivP 12 (-2) 11 Da2 ∧ ivP 12 (-2147483648) 2147483647 Sa2 ∧ ivP 48 (-2147483648) 2147483647 Qa2 ∧ ivP 12 (-2) 11 Da3 ∧ ivP 12 (-2147483648) 2147483647 Sa3 ∧ ivP 48 (-2147483648) 2147483647 Qa3 ∧ ivP 12 (-2) 11 Da4 ∧ ivP 12 (-2147483648) 2147483647 Sa4 ∧ ivP 48 (-2147483648) 2147483647 Qa4 := hg
  obtain ⟨hkk, hkb, hx1, hy1_, hx2, hy2_, hx3, hy3_, hx4, hy4_, hDa1, hSa1, hQa1, hDa2, hSa2, hQa2, hDa3, hSa3, hQa3, hDa4, hSa4, hQa4⟩ := hg
  have hC : TH (eC l G k tC aX aV) (tbC (dayD (.inl (0, 18))) (dayD (.inl (0, 18))) (riverD (.inl (x1, x1)) (.inl (y1, y1)) (.inl (0, 4)) 31 33 35 39 43 47) (riverD (.inl (x2, x2)) (.inl (y2, y2)) (.inl (0, 4)) 32 34 36 40 44 48) (rcD (.inl (t, t)) (.inr kr) (.inr ks) (.inl (kb, kb))) (rdD (.inl (0, 400)) (.inl (0, 400)) (.inl (0, 4000)) (.inl (0, 1)) (.inr [26, 27])) (xB 400 T) A14F A14F A4F A4F A14F A14F (riverD (.inl (x3, x3)) (.inl (y3, y3)) (.inl (0, 4)) 3 8 3 41 45 49) (riverD (.inl (x4, x4)) (.inl (y4, y4)) (.inl (0, 4)) 3 8 3 42 46 50) (xD 12 Da1) (xD 12 Da2) (xD 12 Da3) (xD 12 Da4) (xD 12 Sa1) (xD 12 Sa2) (xD 12 Sa3) (xD 12 Sa4) (xD 48 Qa1) (xD 48 Qa2) (xD 48 Qa3) (xD 48 Qa4)) H := hC
  have hTie : (kr = [26] → rowT x1 Da1 Sa1 Qa1 Z) ∧ (kr = [27] → rowT x2 Da2 Sa2 Qa2 Z) ∧ gI K0 0 = kb % 2 ∧ gI K0 1 = kb / 2 ∧ (kb % 2 = 1 → rowT x3 Da3 Sa3 Qa3 Y0) ∧ (kb / 2 = 1 → rowT x4 Da4 Sa4 Qa4 Y1) := hTie0
  clear hTie0
  have hk1 : (i + 1).toInt = i.toInt + 1 := by
    have h1 := i_add (x := i) (y := 1) (by rw [show (1 : Int32).toInt = 1 by decide]; omega) (by rw [show (1 : Int32).toInt = 1 by decide]; omega)
    rw [show (1 : Int32).toInt = 1 by decide] at h1
    exact h1
  have hk2 : (i + 2).toInt = i.toInt + 2 := by
    have h1 := i_add (x := i) (y := 2) (by rw [show (2 : Int32).toInt = 2 by decide]; omega) (by rw [show (2 : Int32).toInt = 2 by decide]; omega)
    rw [show (2 : Int32).toInt = 2 by decide] at h1
    exact h1
  refine lv_aload_n hx hb dL_law_764 rfl (lv_at hl 2 rfl) ?_
  refine lv_aload_n hx hb dL_law_765 rfl (lv_at hl 3 rfl) ?_
  refine lv_iload_n hx hb dL_law_766 rfl (lv_at hl 0 rfl) ?_
  refine lv_iconst (v := 1) hx hb dL_law_767 (by decide) ?_
  refine lv_iadd hx hb dL_law_768 ?_
  refine va_sld hx hb hX hbl hbA hS (vinT (by rw [hk1]; omega)) dL_law_769 ?_
  refine lv_topi (fun a1_0 ea1_0 => ?_)
  refine lv_aload_n hx hb dL_law_770 rfl (lv_at hl 3 rfl) ?_
  refine lv_iload_n hx hb dL_law_771 rfl (lv_at hl 0 rfl) ?_
  refine lv_iconst (v := 2) hx hb dL_law_772 (by decide) ?_
  refine lv_iadd hx hb dL_law_773 ?_
  refine va_sld hx hb hX hbl hbA hS (vinT (by rw [hk2]; omega)) dL_law_774 ?_
  refine lv_topi (fun a2_0 ea2_0 => ?_)
  have hkr : ∀ t ∈ kr, t ∈ [26, 27] := by rcases hkk with ⟨h9_, -⟩ | ⟨h9_, -⟩ <;> rw [h9_] <;> decide
  have hks : ∀ t ∈ ks, t ∈ [26, 27] := by rcases hkk with ⟨-, h9_⟩ | ⟨-, h9_⟩ <;> rw [h9_] <;> decide
  refine lawVi (E := (eC l G k tC aX aV)) (b := h0) (As := [.int a1_0, .int a2_0]) (rest := []) F hK hN hOc hTc (c_X6_stored (eC l G k tC aX aV) (rdD (.inl (0, 400)) (.inl (0, 400)) (.inl (0, 4000)) (.inl (0, 1)) (.inr [26, 27])) (xB 400 T) (kb, kb) (x1, x1) (y1, y1) (x2, x2) (y2, y2) (x3, x3) (y3, y3) (x4, x4) (y4, y4) kr ks (fun f_ => f_ = Da1) (fun f_ => f_ = Da2) (fun f_ => f_ = Da3) (fun f_ => f_ = Da4) (fun f_ => f_ = Sa1) (fun f_ => f_ = Sa2) (fun f_ => f_ = Sa3) (fun f_ => f_ = Sa4) (fun f_ => f_ = Qa1) (fun f_ => f_ = Qa2) (fun f_ => f_ = Qa3) (fun f_ => f_ = Qa4) t h0 a1_0 a2_0 (List.mem_singleton.mpr hh0) (by omega) (by show 0 ≤ x1 ∧ x1 ≤ 12; omega) (by show 0 ≤ y1 ∧ y1 ≤ 14; omega) (by show 0 ≤ x2 ∧ x2 ≤ 12; omega) (by show 0 ≤ y2 ∧ y2 ≤ 14; omega) (by show 0 ≤ x3 ∧ x3 ≤ 12; omega) (by show 0 ≤ y3 ∧ y3 ≤ 14; omega) (by show 0 ≤ x4 ∧ x4 ≤ 12; omega) (by show 0 ≤ y4 ∧ y4 ≤ 14; omega) hkr hks (fun f_ h_ => ivX hDa1 h_) (fun f_ h_ => ivX hDa2 h_) (fun f_ h_ => ivX hDa3 h_) (fun f_ h_ => ivX hDa4 h_) (fun f_ h_ => ivX hSa1 h_) (fun f_ h_ => ivX hSa2 h_) (fun f_ h_ => ivX hSa3 h_) (fun f_ h_ => ivX hSa4 h_) (fun f_ h_ => ivX hQa1 h_) (fun f_ h_ => ivX hQa2 h_) (fun f_ h_ => ivX hQa3 h_) (fun f_ h_ => ivX hQa4 h_)) mv_X6_stored wd_43_12 ⟨Nat.le_of_ble_eq_true rfl, Nat.le_of_ble_eq_true rfl⟩ ⟨Nat.le_of_ble_eq_true rfl, Nat.le_of_ble_eq_true rfl⟩ hC hS (tRecv hK hC (by rw [show eT (eC l G k tC aX aV) h0 = 28 from hh0]; rfl) clX6) rfl hl.1 (Nat.le_of_ble_eq_true rfl) dL_law_775 (fun v0 H1 locs hq hk_ hS => ?_)
  obtain ⟨f0_0, hN_⟩ := hq
  have hM := keptM hdis hM hk_
  have hC : TH (eC l G k tC aX aV) (tbC (dayD (.inl (0, 18))) (dayD (.inl (0, 18))) (riverD (.inl (x1, x1)) (.inl (y1, y1)) (.inl (0, 4)) 31 33 35 39 43 47) (riverD (.inl (x2, x2)) (.inl (y2, y2)) (.inl (0, 4)) 32 34 36 40 44 48) (rcD (.inl (t, t)) (.inr kr) (.inr ks) (.inl (kb, kb))) (rdD (.inl (0, 400)) (.inl (0, 400)) (.inl (0, 4000)) (.inl (0, 1)) (.inr [26, 27])) (xB 400 T) A14F A14F A4F A4F A14F A14F (riverD (.inl (x3, x3)) (.inl (y3, y3)) (.inl (0, 4)) 3 8 3 41 45 49) (riverD (.inl (x4, x4)) (.inl (y4, y4)) (.inl (0, 4)) 3 8 3 42 46 50) (xD 12 Da1) (xD 12 Da2) (xD 12 Da3) (xD 12 Da4) (xD 12 Sa1) (xD 12 Sa2) (xD 12 Sa3) (xD 12 Sa4) (xD 48 Qa1) (xD 48 Qa2) (xD 48 Qa3) (xD 48 Qa4)) H1 := hN_
  refine lv_pop hx hb dL_law_778 rfl ?_
  refine lv_aload_n hx hb dL_law_779 rfl (lv_at hl 1 rfl) ?_
  refine lv_aload_n hx hb dL_law_780 rfl (lv_at hl 3 rfl) ?_
  refine lv_iload_n hx hb dL_law_781 rfl (lv_at hl 0 rfl) ?_
  refine lv_iconst (v := 1) hx hb dL_law_782 (by decide) ?_
  refine lv_iadd hx hb dL_law_783 ?_
  refine va_sld hx hb hX hbl hbA hS (vinT (by rw [hk1]; omega)) dL_law_784 ?_
  refine lv_topi (fun a1_1 ea1_1 => ?_)
  obtain rfl : a1_0 = a1_1 := ea1_0.trans ea1_1.symm
  refine lv_aload_n hx hb dL_law_785 rfl (lv_at hl 3 rfl) ?_
  refine lv_iload_n hx hb dL_law_786 rfl (lv_at hl 0 rfl) ?_
  refine lv_iconst (v := 2) hx hb dL_law_787 (by decide) ?_
  refine lv_iadd hx hb dL_law_788 ?_
  refine va_sld hx hb hX hbl hbA hS (vinT (by rw [hk2]; omega)) dL_law_789 ?_
  refine lv_topi (fun a2_1 ea2_1 => ?_)
  obtain rfl : a2_0 = a2_1 := ea2_0.trans ea2_1.symm
  refine lawVi (E := (eM l G k tM aX aV)) (b := g0) (As := [.int a1_0, .int a2_0]) (rest := []) F hK hN hOm hTm (c_X7_stored (eM l G k tM aX aV) (xD 6600 W0) (xD 1320 V0) (xD 660 A0) (xD 660 B1) (xB 400 T) (xZ 2 K0) (u, u) (((-2147483648), 2147483647)) (t, t) (((-2147483648), 2147483647)) (0, 4000) (((-2147483648), 2147483647)) (((-2147483648), 2147483647)) (0, 1) X0 g0 a1_0 a2_0 (List.mem_singleton.mpr hg0) hX0) mv_X7_stored wd_43_20 ⟨Nat.le_of_ble_eq_true rfl, Nat.le_of_ble_eq_true rfl⟩ ⟨Nat.le_of_ble_eq_true rfl, Nat.le_of_ble_eq_true rfl⟩ hM hS (tRecv hK hM (by rw [show eT (eM l G k tM aX aV) g0 = 24 from hg0]; rfl) clX7) rfl hl.1 (Nat.le_of_ble_eq_true rfl) dL_law_790 (fun v1 H1 locs hq hk_ hS => ?_)
  obtain ⟨f1_0, hN_⟩ := hq
  have hC := keptC hdis hC hk_
  have hM : TH (eM l G k tM aX aV) (tbM (mD (.inl (t, t)) (.inl (-2147483648, 2147483647)) (.inl (-2147483648, 2147483647)) (.inl (u, u)) (.inl (0, 18)) (.inl (-2147483648, 2147483647)) (.inl (0, 4000)) (.inl (-2147483648, 2147483647)) (.inl (0, 1))) (xD 660 X0) (xD 6600 W0) (xD 1320 V0) (xD 660 A0) (xD 660 B1) m_second (xB 400 T) (xZ 2 K0)) H1 := hN_
  refine lv_pop hx hb dL_law_793 rfl ?_
  refine lv_goto (tgt := 1529) hx hb dL_law_794 (by decide) ?_
  have hG_ : ((kr = [26] ∧ ks = [27]) ∨ (kr = [27] ∧ ks = [26])) ∧ (0 ≤ kb ∧ kb ≤ 3) ∧ (0 ≤ x1 ∧ x1 ≤ 12) ∧ (0 ≤ y1 ∧ y1 ≤ 14) ∧ (0 ≤ x2 ∧ x2 ≤ 12) ∧ (0 ≤ y2 ∧ y2 ≤ 14) ∧ (0 ≤ x3 ∧ x3 ≤ 12) ∧ (0 ≤ y3 ∧ y3 ≤ 14) ∧ (0 ≤ x4 ∧ x4 ≤ 12) ∧ (0 ≤ y4 ∧ y4 ≤ 14) ∧ ivP 12 (-2) 11 Da1 ∧ ivP 12 (-2147483648) 2147483647 Sa1 ∧ ivP 48 (-2147483648) 2147483647 Qa1 ∧ ivP 12 (-2) 11 Da2 ∧ ivP 12 (-2147483648) 2147483647 Sa2 ∧ ivP 48 (-2147483648) 2147483647 Qa2 ∧ ivP 12 (-2) 11 Da3 ∧ ivP 12 (-2147483648) 2147483647 Sa3 ∧ ivP 48 (-2147483648) 2147483647 Qa3 ∧ ivP 12 (-2) 11 Da4 ∧ ivP 12 (-2147483648) 2147483647 Sa4 ∧ ivP 48 (-2147483648) 2147483647 Qa4 := ⟨hkk, (by omega), (by omega), (by omega), (by omega), (by omega), (by omega), (by omega), (by omega), (by omega), hDa1, hSa1, hQa1, hDa2, hSa2, hQa2, hDa3, hSa3, hQa3, hDa4, hSa4, hQa4⟩
  exact hend t T (kr, ks, kb, x1, y1, x2, y2, x3, y3, x4, y4, Da1, Sa1, Qa1, Da2, Sa2, Qa2, Da3, Sa3, Qa3, Da4, Sa4, Qa4) _ _ ⟨(by omega), hT8⟩ hG_ hC ⟨X0, W0, V0, A0, B1, K0, Z, Y0, Y1, u, (by omega), hX0, hW0, hV0, hA0, hK0, hqX0, hmW0, hy0, hy1, hTie, hM⟩ hS
set_option maxHeartbeats 4000000 in
set_option maxRecDepth 100000 in
theorem law_c19 {pg_ : Program} {l : Launch} {ev_ : Env} {s : State} {mi_ : MethodId} {below_ : List Frame} {meth : Method} {cd_ : Code} {H : Heap} {locs : List Loc} {ls : Array Slot} {b L : Nat} {xs : Nat → Int32} {G : va_G} {k : Nat → ClassId} {tC tM aX aV : Nat → Nat} {h0 g0 : Nat} {i : Int32} {t : Int} {T : RwF} {g : Gs} (B0 : LB pg_ s mi_ meth cd_ b L xs l G k tC tM aX aV h0 g0) (hi : 0 ≤ i.toInt ∧ i.toInt + 6 ≤ L) (ht : (0 ≤ t ∧ t ≤ 400) ∧ ivP 400 (-128) 127 T) (hg : Gok g) (hC : Cs (eC l G k tC aX aV) t T g H) (hMs : Ms (eM l G k tM aX aV) t T g H) (hS : va_S (lawA s) s.heap H locs) (hl : lv_has ls 4 [(3, .int i), (2, .ref g0), (1, .ref h0), (0, .ref b)]) (hend : ∀ (t : Int) (T : RwF) (g : Gs) (H : Heap) (locs : List Loc), ((0 ≤ t ∧ t ≤ 400) ∧ ivP 400 (-128) 127 T) → Gok g → Cs (eC l G k tC aX aV) t T g H → Ms (eM l G k tM aX aV) t T g H → va_S (lawA s) s.heap H locs → W pg_ l ev_ room_1 s mi_ #[Value.ref b] below_ meth cd_ H locs 294 18964 (lw_Z below_ #[Value.ref b] s) (F0 mi_ 1529 ls [])) : W pg_ l ev_ room_1 s mi_ #[Value.ref b] below_ meth cd_ H locs 294 18964 (lw_Z below_ #[Value.ref b] s) (F0 mi_ 797 ls []) := by
  obtain ⟨F, hK, hN, hOc, hOm, hX, hbl, hL, hTc, hTm, hdis, hh0, hg0⟩ := id B0
  obtain ⟨hx, hb, hr, hml, hown, hlk, hw, -⟩ := id F
  have hbA : ¬ lawA s b := fun q => absurd q (by unfold lawA; omega)
  obtain ⟨kr, ks, kb, x1, y1, x2, y2, x3, y3, x4, y4, Da1, Sa1, Qa1, Da2, Sa2, Qa2, Da3, Sa3, Qa3, Da4, Sa4, Qa4⟩ := g
  obtain ⟨X0, W0, V0, A0, B1, K0, Z, Y0, Y1, u, hu, hX0, hW0, hV0, hA0, hK0, hqX0, hmW0, hy0, hy1, hTie0, hM⟩ := hMs
  obtain ⟨ht, hT8⟩ := ht
  have hg : ((kr = [26] ∧ ks = [27]) ∨ (kr = [27] ∧ ks = [26])) ∧ (0 ≤ kb ∧ kb ≤ 3) ∧ (0 ≤ x1 ∧ x1 ≤ 12) ∧ (0 ≤ y1 ∧ y1 ≤ 14) ∧ (0 ≤ x2 ∧ x2 ≤ 12) ∧ (0 ≤ y2 ∧ y2 ≤ 14) ∧ (0 ≤ x3 ∧ x3 ≤ 12) ∧ (0 ≤ y3 ∧ y3 ≤ 14) ∧ (0 ≤ x4 ∧ x4 ≤ 12) ∧ (0 ≤ y4 ∧ y4 ≤ 14) ∧ ivP 12 (-2) 11 Da1 ∧ ivP 12 (-2147483648) 2147483647 Sa1 ∧ ivP 48 (-2147483648) 2147483647 Qa1 ∧ ivP 12 (-2) 11 Da2 ∧ ivP 12 (-2147483648) 2147483647 Sa2 ∧ ivP 48 (-2147483648) 2147483647 Qa2 ∧ ivP 12 (-2) 11 Da3 ∧ ivP 12 (-2147483648) 2147483647 Sa3 ∧ ivP 48 (-2147483648) 2147483647 Qa3 ∧ ivP 12 (-2) 11 Da4 ∧ ivP 12 (-2147483648) 2147483647 Sa4 ∧ ivP 48 (-2147483648) 2147483647 Qa4 := hg
  obtain ⟨hkk, hkb, hx1, hy1_, hx2, hy2_, hx3, hy3_, hx4, hy4_, hDa1, hSa1, hQa1, hDa2, hSa2, hQa2, hDa3, hSa3, hQa3, hDa4, hSa4, hQa4⟩ := hg
  have hC : TH (eC l G k tC aX aV) (tbC (dayD (.inl (0, 18))) (dayD (.inl (0, 18))) (riverD (.inl (x1, x1)) (.inl (y1, y1)) (.inl (0, 4)) 31 33 35 39 43 47) (riverD (.inl (x2, x2)) (.inl (y2, y2)) (.inl (0, 4)) 32 34 36 40 44 48) (rcD (.inl (t, t)) (.inr kr) (.inr ks) (.inl (kb, kb))) (rdD (.inl (0, 400)) (.inl (0, 400)) (.inl (0, 4000)) (.inl (0, 1)) (.inr [26, 27])) (xB 400 T) A14F A14F A4F A4F A14F A14F (riverD (.inl (x3, x3)) (.inl (y3, y3)) (.inl (0, 4)) 3 8 3 41 45 49) (riverD (.inl (x4, x4)) (.inl (y4, y4)) (.inl (0, 4)) 3 8 3 42 46 50) (xD 12 Da1) (xD 12 Da2) (xD 12 Da3) (xD 12 Da4) (xD 12 Sa1) (xD 12 Sa2) (xD 12 Sa3) (xD 12 Sa4) (xD 48 Qa1) (xD 48 Qa2) (xD 48 Qa3) (xD 48 Qa4)) H := hC
  have hTie : (kr = [26] → rowT x1 Da1 Sa1 Qa1 Z) ∧ (kr = [27] → rowT x2 Da2 Sa2 Qa2 Z) ∧ gI K0 0 = kb % 2 ∧ gI K0 1 = kb / 2 ∧ (kb % 2 = 1 → rowT x3 Da3 Sa3 Qa3 Y0) ∧ (kb / 2 = 1 → rowT x4 Da4 Sa4 Qa4 Y1) := hTie0
  clear hTie0
  have hk1 : (i + 1).toInt = i.toInt + 1 := by
    have h1 := i_add (x := i) (y := 1) (by rw [show (1 : Int32).toInt = 1 by decide]; omega) (by rw [show (1 : Int32).toInt = 1 by decide]; omega)
    rw [show (1 : Int32).toInt = 1 by decide] at h1
    exact h1
  refine lv_aload_n hx hb dL_law_797 rfl (lv_at hl 2 rfl) ?_
  refine lv_aload_n hx hb dL_law_798 rfl (lv_at hl 3 rfl) ?_
  refine lv_iload_n hx hb dL_law_799 rfl (lv_at hl 0 rfl) ?_
  refine lv_iconst (v := 1) hx hb dL_law_800 (by decide) ?_
  refine lv_iadd hx hb dL_law_801 ?_
  refine va_sld hx hb hX hbl hbA hS (vinT (by rw [hk1]; omega)) dL_law_802 ?_
  refine lv_topi (fun a1_0 ea1_0 => ?_)
  have hkr : ∀ t ∈ kr, t ∈ [26, 27] := by rcases hkk with ⟨h9_, -⟩ | ⟨h9_, -⟩ <;> rw [h9_] <;> decide
  have hks : ∀ t ∈ ks, t ∈ [26, 27] := by rcases hkk with ⟨-, h9_⟩ | ⟨-, h9_⟩ <;> rw [h9_] <;> decide
  refine lawVi (E := (eC l G k tC aX aV)) (b := h0) (As := [.int a1_0]) (rest := []) F hK hN hOc hTc (c_X6_shut (eC l G k tC aX aV) (rdD (.inl (0, 400)) (.inl (0, 400)) (.inl (0, 4000)) (.inl (0, 1)) (.inr [26, 27])) (xB 400 T) (kb, kb) (x1, x1) (y1, y1) (x2, x2) (y2, y2) (x3, x3) (y3, y3) (x4, x4) (y4, y4) kr ks (fun f_ => f_ = Da1) (fun f_ => f_ = Da2) (fun f_ => f_ = Da3) (fun f_ => f_ = Da4) (fun f_ => f_ = Sa1) (fun f_ => f_ = Sa2) (fun f_ => f_ = Sa3) (fun f_ => f_ = Sa4) (fun f_ => f_ = Qa1) (fun f_ => f_ = Qa2) (fun f_ => f_ = Qa3) (fun f_ => f_ = Qa4) t h0 a1_0 (List.mem_singleton.mpr hh0) (by omega) (by show 0 ≤ x1 ∧ x1 ≤ 12; omega) (by show 0 ≤ y1 ∧ y1 ≤ 14; omega) (by show 0 ≤ x2 ∧ x2 ≤ 12; omega) (by show 0 ≤ y2 ∧ y2 ≤ 14; omega) (by show 0 ≤ x3 ∧ x3 ≤ 12; omega) (by show 0 ≤ y3 ∧ y3 ≤ 14; omega) (by show 0 ≤ x4 ∧ x4 ≤ 12; omega) (by show 0 ≤ y4 ∧ y4 ≤ 14; omega) hkr hks (fun f_ h_ => ivX hDa1 h_) (fun f_ h_ => ivX hDa2 h_) (fun f_ h_ => ivX hDa3 h_) (fun f_ h_ => ivX hDa4 h_) (fun f_ h_ => ivX hSa1 h_) (fun f_ h_ => ivX hSa2 h_) (fun f_ h_ => ivX hSa3 h_) (fun f_ h_ => ivX hSa4 h_) (fun f_ h_ => ivX hQa1 h_) (fun f_ h_ => ivX hQa2 h_) (fun f_ h_ => ivX hQa3 h_) (fun f_ h_ => ivX hQa4 h_)) mv_X6_shut wd_44_0 ⟨Nat.le_of_ble_eq_true rfl, Nat.le_of_ble_eq_true rfl⟩ ⟨Nat.le_of_ble_eq_true rfl, Nat.le_of_ble_eq_true rfl⟩ hC hS (tRecv hK hC (by rw [show eT (eC l G k tC aX aV) h0 = 28 from hh0]; rfl) clX6) rfl hl.1 (Nat.le_of_ble_eq_true rfl) dL_law_803 (fun v0 H1 locs hq hk_ hS => ?_)
  obtain ⟨f0_0, hN_⟩ := hq
  have hM := keptM hdis hM hk_
  have hC : TH (eC l G k tC aX aV) (tbC (dayD (.inl (0, 18))) (dayD (.inl (0, 18))) (riverD (.inl (x1, x1)) (.inl (y1, y1)) (.inl (0, 4)) 31 33 35 39 43 47) (riverD (.inl (x2, x2)) (.inl (y2, y2)) (.inl (0, 4)) 32 34 36 40 44 48) (rcD (.inl (t, t)) (.inr kr) (.inr ks) (.inl (kb, kb))) (rdD (.inl (0, 400)) (.inl (0, 400)) (.inl (0, 4000)) (.inl (0, 1)) (.inr [26, 27])) (xB 400 T) A14F A14F A4F A4F A14F A14F (riverD (.inl (x3, x3)) (.inl (y3, y3)) (.inl (0, 4)) 3 8 3 41 45 49) (riverD (.inl (x4, x4)) (.inl (y4, y4)) (.inl (0, 4)) 3 8 3 42 46 50) (xD 12 Da1) (xD 12 Da2) (xD 12 Da3) (xD 12 Da4) (xD 12 Sa1) (xD 12 Sa2) (xD 12 Sa3) (xD 12 Sa4) (xD 48 Qa1) (xD 48 Qa2) (xD 48 Qa3) (xD 48 Qa4)) H1 := hN_
  refine lv_pop hx hb dL_law_806 rfl ?_
  refine lv_aload_n hx hb dL_law_807 rfl (lv_at hl 1 rfl) ?_
  refine lv_aload_n hx hb dL_law_808 rfl (lv_at hl 3 rfl) ?_
  refine lv_iload_n hx hb dL_law_809 rfl (lv_at hl 0 rfl) ?_
  refine lv_iconst (v := 1) hx hb dL_law_810 (by decide) ?_
  refine lv_iadd hx hb dL_law_811 ?_
  refine va_sld hx hb hX hbl hbA hS (vinT (by rw [hk1]; omega)) dL_law_812 ?_
  refine lv_topi (fun a1_1 ea1_1 => ?_)
  obtain rfl : a1_0 = a1_1 := ea1_0.trans ea1_1.symm
  refine lawVi (E := (eM l G k tM aX aV)) (b := g0) (As := [.int a1_0]) (rest := []) F hK hN hOm hTm (c_X7_shut (eM l G k tM aX aV) (xD 6600 W0) (xD 1320 V0) (xD 660 A0) (xD 660 B1) (xB 400 T) (xZ 2 K0) (u, u) (((-2147483648), 2147483647)) (t, t) (((-2147483648), 2147483647)) (0, 4000) (((-2147483648), 2147483647)) (((-2147483648), 2147483647)) (0, 1) X0 g0 a1_0 (List.mem_singleton.mpr hg0) hX0) mv_X7_shut wd_44_8 ⟨Nat.le_of_ble_eq_true rfl, Nat.le_of_ble_eq_true rfl⟩ ⟨Nat.le_of_ble_eq_true rfl, Nat.le_of_ble_eq_true rfl⟩ hM hS (tRecv hK hM (by rw [show eT (eM l G k tM aX aV) g0 = 24 from hg0]; rfl) clX7) rfl hl.1 (Nat.le_of_ble_eq_true rfl) dL_law_813 (fun v1 H1 locs hq hk_ hS => ?_)
  obtain ⟨f1_0, hN_⟩ := hq
  have hC := keptC hdis hC hk_
  have hM : TH (eM l G k tM aX aV) (tbM (mD (.inl (t, t)) (.inl (-2147483648, 2147483647)) (.inl (-2147483648, 2147483647)) (.inl (u, u)) (.inl (0, 18)) (.inl (-2147483648, 2147483647)) (.inl (0, 4000)) (.inl (-2147483648, 2147483647)) (.inl (0, 1))) (xD 660 X0) (xD 6600 W0) (xD 1320 V0) (xD 660 A0) (xD 660 B1) m_second (xB 400 T) (xZ 2 K0)) H1 := hN_
  refine lv_pop hx hb dL_law_816 rfl ?_
  refine lv_goto (tgt := 1529) hx hb dL_law_817 (by decide) ?_
  have hG_ : ((kr = [26] ∧ ks = [27]) ∨ (kr = [27] ∧ ks = [26])) ∧ (0 ≤ kb ∧ kb ≤ 3) ∧ (0 ≤ x1 ∧ x1 ≤ 12) ∧ (0 ≤ y1 ∧ y1 ≤ 14) ∧ (0 ≤ x2 ∧ x2 ≤ 12) ∧ (0 ≤ y2 ∧ y2 ≤ 14) ∧ (0 ≤ x3 ∧ x3 ≤ 12) ∧ (0 ≤ y3 ∧ y3 ≤ 14) ∧ (0 ≤ x4 ∧ x4 ≤ 12) ∧ (0 ≤ y4 ∧ y4 ≤ 14) ∧ ivP 12 (-2) 11 Da1 ∧ ivP 12 (-2147483648) 2147483647 Sa1 ∧ ivP 48 (-2147483648) 2147483647 Qa1 ∧ ivP 12 (-2) 11 Da2 ∧ ivP 12 (-2147483648) 2147483647 Sa2 ∧ ivP 48 (-2147483648) 2147483647 Qa2 ∧ ivP 12 (-2) 11 Da3 ∧ ivP 12 (-2147483648) 2147483647 Sa3 ∧ ivP 48 (-2147483648) 2147483647 Qa3 ∧ ivP 12 (-2) 11 Da4 ∧ ivP 12 (-2147483648) 2147483647 Sa4 ∧ ivP 48 (-2147483648) 2147483647 Qa4 := ⟨hkk, (by omega), (by omega), (by omega), (by omega), (by omega), (by omega), (by omega), (by omega), (by omega), hDa1, hSa1, hQa1, hDa2, hSa2, hQa2, hDa3, hSa3, hQa3, hDa4, hSa4, hQa4⟩
  exact hend t T (kr, ks, kb, x1, y1, x2, y2, x3, y3, x4, y4, Da1, Sa1, Qa1, Da2, Sa2, Qa2, Da3, Sa3, Qa3, Da4, Sa4, Qa4) _ _ ⟨(by omega), hT8⟩ hG_ hC ⟨X0, W0, V0, A0, B1, K0, Z, Y0, Y1, u, (by omega), hX0, hW0, hV0, hA0, hK0, hqX0, hmW0, hy0, hy1, hTie, hM⟩ hS
set_option maxHeartbeats 4000000 in
set_option maxRecDepth 100000 in
theorem law_c20 {pg_ : Program} {l : Launch} {ev_ : Env} {s : State} {mi_ : MethodId} {below_ : List Frame} {meth : Method} {cd_ : Code} {H : Heap} {locs : List Loc} {ls : Array Slot} {b L : Nat} {xs : Nat → Int32} {G : va_G} {k : Nat → ClassId} {tC tM aX aV : Nat → Nat} {h0 g0 : Nat} {i : Int32} {t : Int} {T : RwF} {g : Gs} (B0 : LB pg_ s mi_ meth cd_ b L xs l G k tC tM aX aV h0 g0) (hi : 0 ≤ i.toInt ∧ i.toInt + 6 ≤ L) (ht : (0 ≤ t ∧ t ≤ 400) ∧ ivP 400 (-128) 127 T) (hg : Gok g) (hC : Cs (eC l G k tC aX aV) t T g H) (hMs : Ms (eM l G k tM aX aV) t T g H) (hS : va_S (lawA s) s.heap H locs) (hl : lv_has ls 4 [(3, .int i), (2, .ref g0), (1, .ref h0), (0, .ref b)]) (hend : ∀ (t : Int) (T : RwF) (g : Gs) (H : Heap) (locs : List Loc), ((0 ≤ t ∧ t ≤ 400) ∧ ivP 400 (-128) 127 T) → Gok g → Cs (eC l G k tC aX aV) t T g H → Ms (eM l G k tM aX aV) t T g H → va_S (lawA s) s.heap H locs → W pg_ l ev_ room_1 s mi_ #[Value.ref b] below_ meth cd_ H locs 294 18964 (lw_Z below_ #[Value.ref b] s) (F0 mi_ 1529 ls [])) : W pg_ l ev_ room_1 s mi_ #[Value.ref b] below_ meth cd_ H locs 294 18964 (lw_Z below_ #[Value.ref b] s) (F0 mi_ 820 ls []) := by
  obtain ⟨F, hK, hN, hOc, hOm, hX, hbl, hL, hTc, hTm, hdis, hh0, hg0⟩ := id B0
  obtain ⟨hx, hb, hr, hml, hown, hlk, hw, -⟩ := id F
  have hbA : ¬ lawA s b := fun q => absurd q (by unfold lawA; omega)
  obtain ⟨kr, ks, kb, x1, y1, x2, y2, x3, y3, x4, y4, Da1, Sa1, Qa1, Da2, Sa2, Qa2, Da3, Sa3, Qa3, Da4, Sa4, Qa4⟩ := g
  obtain ⟨X0, W0, V0, A0, B1, K0, Z, Y0, Y1, u, hu, hX0, hW0, hV0, hA0, hK0, hqX0, hmW0, hy0, hy1, hTie0, hM⟩ := hMs
  obtain ⟨ht, hT8⟩ := ht
  have hg : ((kr = [26] ∧ ks = [27]) ∨ (kr = [27] ∧ ks = [26])) ∧ (0 ≤ kb ∧ kb ≤ 3) ∧ (0 ≤ x1 ∧ x1 ≤ 12) ∧ (0 ≤ y1 ∧ y1 ≤ 14) ∧ (0 ≤ x2 ∧ x2 ≤ 12) ∧ (0 ≤ y2 ∧ y2 ≤ 14) ∧ (0 ≤ x3 ∧ x3 ≤ 12) ∧ (0 ≤ y3 ∧ y3 ≤ 14) ∧ (0 ≤ x4 ∧ x4 ≤ 12) ∧ (0 ≤ y4 ∧ y4 ≤ 14) ∧ ivP 12 (-2) 11 Da1 ∧ ivP 12 (-2147483648) 2147483647 Sa1 ∧ ivP 48 (-2147483648) 2147483647 Qa1 ∧ ivP 12 (-2) 11 Da2 ∧ ivP 12 (-2147483648) 2147483647 Sa2 ∧ ivP 48 (-2147483648) 2147483647 Qa2 ∧ ivP 12 (-2) 11 Da3 ∧ ivP 12 (-2147483648) 2147483647 Sa3 ∧ ivP 48 (-2147483648) 2147483647 Qa3 ∧ ivP 12 (-2) 11 Da4 ∧ ivP 12 (-2147483648) 2147483647 Sa4 ∧ ivP 48 (-2147483648) 2147483647 Qa4 := hg
  obtain ⟨hkk, hkb, hx1, hy1_, hx2, hy2_, hx3, hy3_, hx4, hy4_, hDa1, hSa1, hQa1, hDa2, hSa2, hQa2, hDa3, hSa3, hQa3, hDa4, hSa4, hQa4⟩ := hg
  have hC : TH (eC l G k tC aX aV) (tbC (dayD (.inl (0, 18))) (dayD (.inl (0, 18))) (riverD (.inl (x1, x1)) (.inl (y1, y1)) (.inl (0, 4)) 31 33 35 39 43 47) (riverD (.inl (x2, x2)) (.inl (y2, y2)) (.inl (0, 4)) 32 34 36 40 44 48) (rcD (.inl (t, t)) (.inr kr) (.inr ks) (.inl (kb, kb))) (rdD (.inl (0, 400)) (.inl (0, 400)) (.inl (0, 4000)) (.inl (0, 1)) (.inr [26, 27])) (xB 400 T) A14F A14F A4F A4F A14F A14F (riverD (.inl (x3, x3)) (.inl (y3, y3)) (.inl (0, 4)) 3 8 3 41 45 49) (riverD (.inl (x4, x4)) (.inl (y4, y4)) (.inl (0, 4)) 3 8 3 42 46 50) (xD 12 Da1) (xD 12 Da2) (xD 12 Da3) (xD 12 Da4) (xD 12 Sa1) (xD 12 Sa2) (xD 12 Sa3) (xD 12 Sa4) (xD 48 Qa1) (xD 48 Qa2) (xD 48 Qa3) (xD 48 Qa4)) H := hC
  have hTie : (kr = [26] → rowT x1 Da1 Sa1 Qa1 Z) ∧ (kr = [27] → rowT x2 Da2 Sa2 Qa2 Z) ∧ gI K0 0 = kb % 2 ∧ gI K0 1 = kb / 2 ∧ (kb % 2 = 1 → rowT x3 Da3 Sa3 Qa3 Y0) ∧ (kb / 2 = 1 → rowT x4 Da4 Sa4 Qa4 Y1) := hTie0
  clear hTie0
  have hk1 : (i + 1).toInt = i.toInt + 1 := by
    have h1 := i_add (x := i) (y := 1) (by rw [show (1 : Int32).toInt = 1 by decide]; omega) (by rw [show (1 : Int32).toInt = 1 by decide]; omega)
    rw [show (1 : Int32).toInt = 1 by decide] at h1
    exact h1
  refine lv_aload_n hx hb dL_law_820 rfl (lv_at hl 2 rfl) ?_
  refine lv_aload_n hx hb dL_law_821 rfl (lv_at hl 3 rfl) ?_
  refine lv_iload_n hx hb dL_law_822 rfl (lv_at hl 0 rfl) ?_
  refine lv_iconst (v := 1) hx hb dL_law_823 (by decide) ?_
  refine lv_iadd hx hb dL_law_824 ?_
  refine va_sld hx hb hX hbl hbA hS (vinT (by rw [hk1]; omega)) dL_law_825 ?_
  refine lv_topi (fun a1_0 ea1_0 => ?_)
  have hkr : ∀ t ∈ kr, t ∈ [26, 27] := by rcases hkk with ⟨h9_, -⟩ | ⟨h9_, -⟩ <;> rw [h9_] <;> decide
  have hks : ∀ t ∈ ks, t ∈ [26, 27] := by rcases hkk with ⟨-, h9_⟩ | ⟨-, h9_⟩ <;> rw [h9_] <;> decide
  refine lawVi (E := (eC l G k tC aX aV)) (b := h0) (As := [.int a1_0]) (rest := []) F hK hN hOc hTc (c_X6_caller (eC l G k tC aX aV) (rdD (.inl (0, 400)) (.inl (0, 400)) (.inl (0, 4000)) (.inl (0, 1)) (.inr [26, 27])) (xB 400 T) (kb, kb) (x1, x1) (y1, y1) (x2, x2) (y2, y2) (x3, x3) (y3, y3) (x4, x4) (y4, y4) kr ks (fun f_ => f_ = Da1) (fun f_ => f_ = Da2) (fun f_ => f_ = Da3) (fun f_ => f_ = Da4) (fun f_ => f_ = Sa1) (fun f_ => f_ = Sa2) (fun f_ => f_ = Sa3) (fun f_ => f_ = Sa4) (fun f_ => f_ = Qa1) (fun f_ => f_ = Qa2) (fun f_ => f_ = Qa3) (fun f_ => f_ = Qa4) t h0 a1_0 (List.mem_singleton.mpr hh0) (by omega) (by show 0 ≤ x1 ∧ x1 ≤ 12; omega) (by show 0 ≤ y1 ∧ y1 ≤ 14; omega) (by show 0 ≤ x2 ∧ x2 ≤ 12; omega) (by show 0 ≤ y2 ∧ y2 ≤ 14; omega) (by show 0 ≤ x3 ∧ x3 ≤ 12; omega) (by show 0 ≤ y3 ∧ y3 ≤ 14; omega) (by show 0 ≤ x4 ∧ x4 ≤ 12; omega) (by show 0 ≤ y4 ∧ y4 ≤ 14; omega) hkr hks (fun f_ h_ => ivX hDa1 h_) (fun f_ h_ => ivX hDa2 h_) (fun f_ h_ => ivX hDa3 h_) (fun f_ h_ => ivX hDa4 h_) (fun f_ h_ => ivX hSa1 h_) (fun f_ h_ => ivX hSa2 h_) (fun f_ h_ => ivX hSa3 h_) (fun f_ h_ => ivX hSa4 h_) (fun f_ h_ => ivX hQa1 h_) (fun f_ h_ => ivX hQa2 h_) (fun f_ h_ => ivX hQa3 h_) (fun f_ h_ => ivX hQa4 h_)) mv_X6_caller wd_44_20 ⟨Nat.le_of_ble_eq_true rfl, Nat.le_of_ble_eq_true rfl⟩ ⟨Nat.le_of_ble_eq_true rfl, Nat.le_of_ble_eq_true rfl⟩ hC hS (tRecv hK hC (by rw [show eT (eC l G k tC aX aV) h0 = 28 from hh0]; rfl) clX6) rfl hl.1 (Nat.le_of_ble_eq_true rfl) dL_law_826 (fun v0 H1 locs hq hk_ hS => ?_)
  obtain ⟨f0_0, hN_⟩ := hq
  have hM := keptM hdis hM hk_
  have hC : TH (eC l G k tC aX aV) (tbC (dayD (.inl (0, 18))) (dayD (.inl (0, 18))) (riverD (.inl (x1, x1)) (.inl (y1, y1)) (.inl (0, 4)) 31 33 35 39 43 47) (riverD (.inl (x2, x2)) (.inl (y2, y2)) (.inl (0, 4)) 32 34 36 40 44 48) (rcD (.inl (t, t)) (.inr kr) (.inr ks) (.inl (kb, kb))) (rdD (.inl (0, 400)) (.inl (0, 400)) (.inl (0, 4000)) (.inl (0, 1)) (.inr [26, 27])) (xB 400 T) A14F A14F A4F A4F A14F A14F (riverD (.inl (x3, x3)) (.inl (y3, y3)) (.inl (0, 4)) 3 8 3 41 45 49) (riverD (.inl (x4, x4)) (.inl (y4, y4)) (.inl (0, 4)) 3 8 3 42 46 50) (xD 12 Da1) (xD 12 Da2) (xD 12 Da3) (xD 12 Da4) (xD 12 Sa1) (xD 12 Sa2) (xD 12 Sa3) (xD 12 Sa4) (xD 48 Qa1) (xD 48 Qa2) (xD 48 Qa3) (xD 48 Qa4)) H1 := hN_
  refine lv_pop hx hb dL_law_829 rfl ?_
  refine lv_aload_n hx hb dL_law_830 rfl (lv_at hl 1 rfl) ?_
  refine lv_aload_n hx hb dL_law_831 rfl (lv_at hl 3 rfl) ?_
  refine lv_iload_n hx hb dL_law_832 rfl (lv_at hl 0 rfl) ?_
  refine lv_iconst (v := 1) hx hb dL_law_833 (by decide) ?_
  refine lv_iadd hx hb dL_law_834 ?_
  refine va_sld hx hb hX hbl hbA hS (vinT (by rw [hk1]; omega)) dL_law_835 ?_
  refine lv_topi (fun a1_1 ea1_1 => ?_)
  obtain rfl : a1_0 = a1_1 := ea1_0.trans ea1_1.symm
  refine lawVi (E := (eM l G k tM aX aV)) (b := g0) (As := [.int a1_0]) (rest := []) F hK hN hOm hTm (c_X7_caller (eM l G k tM aX aV) (xD 6600 W0) (xD 1320 V0) (xD 660 A0) (xD 660 B1) (xB 400 T) (xZ 2 K0) (u, u) (((-2147483648), 2147483647)) (t, t) (((-2147483648), 2147483647)) (0, 4000) (((-2147483648), 2147483647)) (((-2147483648), 2147483647)) (0, 1) X0 g0 a1_0 (List.mem_singleton.mpr hg0) hX0) mv_X7_caller wd_45_7 ⟨Nat.le_of_ble_eq_true rfl, Nat.le_of_ble_eq_true rfl⟩ ⟨Nat.le_of_ble_eq_true rfl, Nat.le_of_ble_eq_true rfl⟩ hM hS (tRecv hK hM (by rw [show eT (eM l G k tM aX aV) g0 = 24 from hg0]; rfl) clX7) rfl hl.1 (Nat.le_of_ble_eq_true rfl) dL_law_836 (fun v1 H1 locs hq hk_ hS => ?_)
  obtain ⟨f1_0, hN_⟩ := hq
  have hC := keptC hdis hC hk_
  have hM : TH (eM l G k tM aX aV) (tbM (mD (.inl (t, t)) (.inl (-2147483648, 2147483647)) (.inl (-2147483648, 2147483647)) (.inl (u, u)) (.inl (0, 18)) (.inl (-2147483648, 2147483647)) (.inl (0, 4000)) (.inl (-2147483648, 2147483647)) (.inl (0, 1))) (xD 660 X0) (xD 6600 W0) (xD 1320 V0) (xD 660 A0) (xD 660 B1) m_second (xB 400 T) (xZ 2 K0)) H1 := hN_
  refine lv_pop hx hb dL_law_839 rfl ?_
  refine lv_goto (tgt := 1529) hx hb dL_law_840 (by decide) ?_
  have hG_ : ((kr = [26] ∧ ks = [27]) ∨ (kr = [27] ∧ ks = [26])) ∧ (0 ≤ kb ∧ kb ≤ 3) ∧ (0 ≤ x1 ∧ x1 ≤ 12) ∧ (0 ≤ y1 ∧ y1 ≤ 14) ∧ (0 ≤ x2 ∧ x2 ≤ 12) ∧ (0 ≤ y2 ∧ y2 ≤ 14) ∧ (0 ≤ x3 ∧ x3 ≤ 12) ∧ (0 ≤ y3 ∧ y3 ≤ 14) ∧ (0 ≤ x4 ∧ x4 ≤ 12) ∧ (0 ≤ y4 ∧ y4 ≤ 14) ∧ ivP 12 (-2) 11 Da1 ∧ ivP 12 (-2147483648) 2147483647 Sa1 ∧ ivP 48 (-2147483648) 2147483647 Qa1 ∧ ivP 12 (-2) 11 Da2 ∧ ivP 12 (-2147483648) 2147483647 Sa2 ∧ ivP 48 (-2147483648) 2147483647 Qa2 ∧ ivP 12 (-2) 11 Da3 ∧ ivP 12 (-2147483648) 2147483647 Sa3 ∧ ivP 48 (-2147483648) 2147483647 Qa3 ∧ ivP 12 (-2) 11 Da4 ∧ ivP 12 (-2147483648) 2147483647 Sa4 ∧ ivP 48 (-2147483648) 2147483647 Qa4 := ⟨hkk, (by omega), (by omega), (by omega), (by omega), (by omega), (by omega), (by omega), (by omega), (by omega), hDa1, hSa1, hQa1, hDa2, hSa2, hQa2, hDa3, hSa3, hQa3, hDa4, hSa4, hQa4⟩
  exact hend t T (kr, ks, kb, x1, y1, x2, y2, x3, y3, x4, y4, Da1, Sa1, Qa1, Da2, Sa2, Qa2, Da3, Sa3, Qa3, Da4, Sa4, Qa4) _ _ ⟨(by omega), hT8⟩ hG_ hC ⟨X0, W0, V0, A0, B1, K0, Z, Y0, Y1, u, (by omega), hX0, hW0, hV0, hA0, hK0, hqX0, hmW0, hy0, hy1, hTie, hM⟩ hS
set_option maxHeartbeats 4000000 in
set_option maxRecDepth 100000 in
theorem law_c21 {pg_ : Program} {l : Launch} {ev_ : Env} {s : State} {mi_ : MethodId} {below_ : List Frame} {meth : Method} {cd_ : Code} {H : Heap} {locs : List Loc} {ls : Array Slot} {b L : Nat} {xs : Nat → Int32} {G : va_G} {k : Nat → ClassId} {tC tM aX aV : Nat → Nat} {h0 g0 : Nat} {i : Int32} {t : Int} {T : RwF} {g : Gs} (B0 : LB pg_ s mi_ meth cd_ b L xs l G k tC tM aX aV h0 g0) (hi : 0 ≤ i.toInt ∧ i.toInt + 6 ≤ L) (ht : (0 ≤ t ∧ t ≤ 400) ∧ ivP 400 (-128) 127 T) (hg : Gok g) (hC : Cs (eC l G k tC aX aV) t T g H) (hMs : Ms (eM l G k tM aX aV) t T g H) (hS : va_S (lawA s) s.heap H locs) (hl : lv_has ls 4 [(3, .int i), (2, .ref g0), (1, .ref h0), (0, .ref b)]) (hend : ∀ (t : Int) (T : RwF) (g : Gs) (H : Heap) (locs : List Loc), ((0 ≤ t ∧ t ≤ 400) ∧ ivP 400 (-128) 127 T) → Gok g → Cs (eC l G k tC aX aV) t T g H → Ms (eM l G k tM aX aV) t T g H → va_S (lawA s) s.heap H locs → W pg_ l ev_ room_1 s mi_ #[Value.ref b] below_ meth cd_ H locs 294 18964 (lw_Z below_ #[Value.ref b] s) (F0 mi_ 1529 ls [])) : W pg_ l ev_ room_1 s mi_ #[Value.ref b] below_ meth cd_ H locs 294 18964 (lw_Z below_ #[Value.ref b] s) (F0 mi_ 843 ls []) := by
  obtain ⟨F, hK, hN, hOc, hOm, hX, hbl, hL, hTc, hTm, hdis, hh0, hg0⟩ := id B0
  obtain ⟨hx, hb, hr, hml, hown, hlk, hw, -⟩ := id F
  have hbA : ¬ lawA s b := fun q => absurd q (by unfold lawA; omega)
  obtain ⟨kr, ks, kb, x1, y1, x2, y2, x3, y3, x4, y4, Da1, Sa1, Qa1, Da2, Sa2, Qa2, Da3, Sa3, Qa3, Da4, Sa4, Qa4⟩ := g
  obtain ⟨X0, W0, V0, A0, B1, K0, Z, Y0, Y1, u, hu, hX0, hW0, hV0, hA0, hK0, hqX0, hmW0, hy0, hy1, hTie0, hM⟩ := hMs
  obtain ⟨ht, hT8⟩ := ht
  have hg : ((kr = [26] ∧ ks = [27]) ∨ (kr = [27] ∧ ks = [26])) ∧ (0 ≤ kb ∧ kb ≤ 3) ∧ (0 ≤ x1 ∧ x1 ≤ 12) ∧ (0 ≤ y1 ∧ y1 ≤ 14) ∧ (0 ≤ x2 ∧ x2 ≤ 12) ∧ (0 ≤ y2 ∧ y2 ≤ 14) ∧ (0 ≤ x3 ∧ x3 ≤ 12) ∧ (0 ≤ y3 ∧ y3 ≤ 14) ∧ (0 ≤ x4 ∧ x4 ≤ 12) ∧ (0 ≤ y4 ∧ y4 ≤ 14) ∧ ivP 12 (-2) 11 Da1 ∧ ivP 12 (-2147483648) 2147483647 Sa1 ∧ ivP 48 (-2147483648) 2147483647 Qa1 ∧ ivP 12 (-2) 11 Da2 ∧ ivP 12 (-2147483648) 2147483647 Sa2 ∧ ivP 48 (-2147483648) 2147483647 Qa2 ∧ ivP 12 (-2) 11 Da3 ∧ ivP 12 (-2147483648) 2147483647 Sa3 ∧ ivP 48 (-2147483648) 2147483647 Qa3 ∧ ivP 12 (-2) 11 Da4 ∧ ivP 12 (-2147483648) 2147483647 Sa4 ∧ ivP 48 (-2147483648) 2147483647 Qa4 := hg
  obtain ⟨hkk, hkb, hx1, hy1_, hx2, hy2_, hx3, hy3_, hx4, hy4_, hDa1, hSa1, hQa1, hDa2, hSa2, hQa2, hDa3, hSa3, hQa3, hDa4, hSa4, hQa4⟩ := hg
  have hC : TH (eC l G k tC aX aV) (tbC (dayD (.inl (0, 18))) (dayD (.inl (0, 18))) (riverD (.inl (x1, x1)) (.inl (y1, y1)) (.inl (0, 4)) 31 33 35 39 43 47) (riverD (.inl (x2, x2)) (.inl (y2, y2)) (.inl (0, 4)) 32 34 36 40 44 48) (rcD (.inl (t, t)) (.inr kr) (.inr ks) (.inl (kb, kb))) (rdD (.inl (0, 400)) (.inl (0, 400)) (.inl (0, 4000)) (.inl (0, 1)) (.inr [26, 27])) (xB 400 T) A14F A14F A4F A4F A14F A14F (riverD (.inl (x3, x3)) (.inl (y3, y3)) (.inl (0, 4)) 3 8 3 41 45 49) (riverD (.inl (x4, x4)) (.inl (y4, y4)) (.inl (0, 4)) 3 8 3 42 46 50) (xD 12 Da1) (xD 12 Da2) (xD 12 Da3) (xD 12 Da4) (xD 12 Sa1) (xD 12 Sa2) (xD 12 Sa3) (xD 12 Sa4) (xD 48 Qa1) (xD 48 Qa2) (xD 48 Qa3) (xD 48 Qa4)) H := hC
  have hTie : (kr = [26] → rowT x1 Da1 Sa1 Qa1 Z) ∧ (kr = [27] → rowT x2 Da2 Sa2 Qa2 Z) ∧ gI K0 0 = kb % 2 ∧ gI K0 1 = kb / 2 ∧ (kb % 2 = 1 → rowT x3 Da3 Sa3 Qa3 Y0) ∧ (kb / 2 = 1 → rowT x4 Da4 Sa4 Qa4 Y1) := hTie0
  clear hTie0
  have hk1 : (i + 1).toInt = i.toInt + 1 := by
    have h1 := i_add (x := i) (y := 1) (by rw [show (1 : Int32).toInt = 1 by decide]; omega) (by rw [show (1 : Int32).toInt = 1 by decide]; omega)
    rw [show (1 : Int32).toInt = 1 by decide] at h1
    exact h1
  refine lv_aload_n hx hb dL_law_843 rfl (lv_at hl 2 rfl) ?_
  refine lv_aload_n hx hb dL_law_844 rfl (lv_at hl 3 rfl) ?_
  refine lv_iload_n hx hb dL_law_845 rfl (lv_at hl 0 rfl) ?_
  refine lv_iconst (v := 1) hx hb dL_law_846 (by decide) ?_
  refine lv_iadd hx hb dL_law_847 ?_
  refine va_sld hx hb hX hbl hbA hS (vinT (by rw [hk1]; omega)) dL_law_848 ?_
  refine lv_topi (fun a1_0 ea1_0 => ?_)
  have hkr : ∀ t ∈ kr, t ∈ [26, 27] := by rcases hkk with ⟨h9_, -⟩ | ⟨h9_, -⟩ <;> rw [h9_] <;> decide
  have hks : ∀ t ∈ ks, t ∈ [26, 27] := by rcases hkk with ⟨-, h9_⟩ | ⟨-, h9_⟩ <;> rw [h9_] <;> decide
  refine lawVi (E := (eC l G k tC aX aV)) (b := h0) (As := [.int a1_0]) (rest := []) F hK hN hOc hTc (c_X6_calls (eC l G k tC aX aV) (rdD (.inl (0, 400)) (.inl (0, 400)) (.inl (0, 4000)) (.inl (0, 1)) (.inr [26, 27])) (xB 400 T) (kb, kb) (x1, x1) (y1, y1) (x2, x2) (y2, y2) (x3, x3) (y3, y3) (x4, x4) (y4, y4) kr ks (fun f_ => f_ = Da1) (fun f_ => f_ = Da2) (fun f_ => f_ = Da3) (fun f_ => f_ = Da4) (fun f_ => f_ = Sa1) (fun f_ => f_ = Sa2) (fun f_ => f_ = Sa3) (fun f_ => f_ = Sa4) (fun f_ => f_ = Qa1) (fun f_ => f_ = Qa2) (fun f_ => f_ = Qa3) (fun f_ => f_ = Qa4) t h0 a1_0 (List.mem_singleton.mpr hh0) (by omega) (by show 0 ≤ x1 ∧ x1 ≤ 12; omega) (by show 0 ≤ y1 ∧ y1 ≤ 14; omega) (by show 0 ≤ x2 ∧ x2 ≤ 12; omega) (by show 0 ≤ y2 ∧ y2 ≤ 14; omega) (by show 0 ≤ x3 ∧ x3 ≤ 12; omega) (by show 0 ≤ y3 ∧ y3 ≤ 14; omega) (by show 0 ≤ x4 ∧ x4 ≤ 12; omega) (by show 0 ≤ y4 ∧ y4 ≤ 14; omega) hkr hks (fun f_ h_ => ivX hDa1 h_) (fun f_ h_ => ivX hDa2 h_) (fun f_ h_ => ivX hDa3 h_) (fun f_ h_ => ivX hDa4 h_) (fun f_ h_ => ivX hSa1 h_) (fun f_ h_ => ivX hSa2 h_) (fun f_ h_ => ivX hSa3 h_) (fun f_ h_ => ivX hSa4 h_) (fun f_ h_ => ivX hQa1 h_) (fun f_ h_ => ivX hQa2 h_) (fun f_ h_ => ivX hQa3 h_) (fun f_ h_ => ivX hQa4 h_)) mv_X6_calls wd_45_14 ⟨Nat.le_of_ble_eq_true rfl, Nat.le_of_ble_eq_true rfl⟩ ⟨Nat.le_of_ble_eq_true rfl, Nat.le_of_ble_eq_true rfl⟩ hC hS (tRecv hK hC (by rw [show eT (eC l G k tC aX aV) h0 = 28 from hh0]; rfl) clX6) rfl hl.1 (Nat.le_of_ble_eq_true rfl) dL_law_849 (fun v0 H1 locs hq hk_ hS => ?_)
  obtain ⟨f0_0, hN_⟩ := hq
  have hM := keptM hdis hM hk_
  have hC : TH (eC l G k tC aX aV) (tbC (dayD (.inl (0, 18))) (dayD (.inl (0, 18))) (riverD (.inl (x1, x1)) (.inl (y1, y1)) (.inl (0, 4)) 31 33 35 39 43 47) (riverD (.inl (x2, x2)) (.inl (y2, y2)) (.inl (0, 4)) 32 34 36 40 44 48) (rcD (.inl (t, t)) (.inr kr) (.inr ks) (.inl (kb, kb))) (rdD (.inl (0, 400)) (.inl (0, 400)) (.inl (0, 4000)) (.inl (0, 1)) (.inr [26, 27])) (xB 400 T) A14F A14F A4F A4F A14F A14F (riverD (.inl (x3, x3)) (.inl (y3, y3)) (.inl (0, 4)) 3 8 3 41 45 49) (riverD (.inl (x4, x4)) (.inl (y4, y4)) (.inl (0, 4)) 3 8 3 42 46 50) (xD 12 Da1) (xD 12 Da2) (xD 12 Da3) (xD 12 Da4) (xD 12 Sa1) (xD 12 Sa2) (xD 12 Sa3) (xD 12 Sa4) (xD 48 Qa1) (xD 48 Qa2) (xD 48 Qa3) (xD 48 Qa4)) H1 := hN_
  refine lv_pop hx hb dL_law_852 rfl ?_
  refine lv_aload_n hx hb dL_law_853 rfl (lv_at hl 1 rfl) ?_
  refine lv_aload_n hx hb dL_law_854 rfl (lv_at hl 3 rfl) ?_
  refine lv_iload_n hx hb dL_law_855 rfl (lv_at hl 0 rfl) ?_
  refine lv_iconst (v := 1) hx hb dL_law_856 (by decide) ?_
  refine lv_iadd hx hb dL_law_857 ?_
  refine va_sld hx hb hX hbl hbA hS (vinT (by rw [hk1]; omega)) dL_law_858 ?_
  refine lv_topi (fun a1_1 ea1_1 => ?_)
  obtain rfl : a1_0 = a1_1 := ea1_0.trans ea1_1.symm
  refine lawVi (E := (eM l G k tM aX aV)) (b := g0) (As := [.int a1_0]) (rest := []) F hK hN hOm hTm (c_X7_calls (eM l G k tM aX aV) (xD 6600 W0) (xD 1320 V0) (xD 660 A0) (xD 660 B1) (xB 400 T) (xZ 2 K0) (u, u) (((-2147483648), 2147483647)) (t, t) (((-2147483648), 2147483647)) (0, 4000) (((-2147483648), 2147483647)) (((-2147483648), 2147483647)) (0, 1) X0 g0 a1_0 (List.mem_singleton.mpr hg0) hX0) mv_X7_calls wd_46_3 ⟨Nat.le_of_ble_eq_true rfl, Nat.le_of_ble_eq_true rfl⟩ ⟨Nat.le_of_ble_eq_true rfl, Nat.le_of_ble_eq_true rfl⟩ hM hS (tRecv hK hM (by rw [show eT (eM l G k tM aX aV) g0 = 24 from hg0]; rfl) clX7) rfl hl.1 (Nat.le_of_ble_eq_true rfl) dL_law_859 (fun v1 H1 locs hq hk_ hS => ?_)
  obtain ⟨f1_0, hN_⟩ := hq
  have hC := keptC hdis hC hk_
  have hM : TH (eM l G k tM aX aV) (tbM (mD (.inl (t, t)) (.inl (-2147483648, 2147483647)) (.inl (-2147483648, 2147483647)) (.inl (u, u)) (.inl (0, 18)) (.inl (-2147483648, 2147483647)) (.inl (0, 4000)) (.inl (-2147483648, 2147483647)) (.inl (0, 1))) (xD 660 X0) (xD 6600 W0) (xD 1320 V0) (xD 660 A0) (xD 660 B1) m_second (xB 400 T) (xZ 2 K0)) H1 := hN_
  refine lv_pop hx hb dL_law_862 rfl ?_
  refine lv_goto (tgt := 1529) hx hb dL_law_863 (by decide) ?_
  have hG_ : ((kr = [26] ∧ ks = [27]) ∨ (kr = [27] ∧ ks = [26])) ∧ (0 ≤ kb ∧ kb ≤ 3) ∧ (0 ≤ x1 ∧ x1 ≤ 12) ∧ (0 ≤ y1 ∧ y1 ≤ 14) ∧ (0 ≤ x2 ∧ x2 ≤ 12) ∧ (0 ≤ y2 ∧ y2 ≤ 14) ∧ (0 ≤ x3 ∧ x3 ≤ 12) ∧ (0 ≤ y3 ∧ y3 ≤ 14) ∧ (0 ≤ x4 ∧ x4 ≤ 12) ∧ (0 ≤ y4 ∧ y4 ≤ 14) ∧ ivP 12 (-2) 11 Da1 ∧ ivP 12 (-2147483648) 2147483647 Sa1 ∧ ivP 48 (-2147483648) 2147483647 Qa1 ∧ ivP 12 (-2) 11 Da2 ∧ ivP 12 (-2147483648) 2147483647 Sa2 ∧ ivP 48 (-2147483648) 2147483647 Qa2 ∧ ivP 12 (-2) 11 Da3 ∧ ivP 12 (-2147483648) 2147483647 Sa3 ∧ ivP 48 (-2147483648) 2147483647 Qa3 ∧ ivP 12 (-2) 11 Da4 ∧ ivP 12 (-2147483648) 2147483647 Sa4 ∧ ivP 48 (-2147483648) 2147483647 Qa4 := ⟨hkk, (by omega), (by omega), (by omega), (by omega), (by omega), (by omega), (by omega), (by omega), (by omega), hDa1, hSa1, hQa1, hDa2, hSa2, hQa2, hDa3, hSa3, hQa3, hDa4, hSa4, hQa4⟩
  exact hend t T (kr, ks, kb, x1, y1, x2, y2, x3, y3, x4, y4, Da1, Sa1, Qa1, Da2, Sa2, Qa2, Da3, Sa3, Qa3, Da4, Sa4, Qa4) _ _ ⟨(by omega), hT8⟩ hG_ hC ⟨X0, W0, V0, A0, B1, K0, Z, Y0, Y1, u, (by omega), hX0, hW0, hV0, hA0, hK0, hqX0, hmW0, hy0, hy1, hTie, hM⟩ hS
set_option maxHeartbeats 4000000 in
set_option maxRecDepth 100000 in
theorem law_c22 {pg_ : Program} {l : Launch} {ev_ : Env} {s : State} {mi_ : MethodId} {below_ : List Frame} {meth : Method} {cd_ : Code} {H : Heap} {locs : List Loc} {ls : Array Slot} {b L : Nat} {xs : Nat → Int32} {G : va_G} {k : Nat → ClassId} {tC tM aX aV : Nat → Nat} {h0 g0 : Nat} {i : Int32} {t : Int} {T : RwF} {g : Gs} (B0 : LB pg_ s mi_ meth cd_ b L xs l G k tC tM aX aV h0 g0) (hi : 0 ≤ i.toInt ∧ i.toInt + 6 ≤ L) (ht : (0 ≤ t ∧ t ≤ 400) ∧ ivP 400 (-128) 127 T) (hg : Gok g) (hC : Cs (eC l G k tC aX aV) t T g H) (hMs : Ms (eM l G k tM aX aV) t T g H) (hS : va_S (lawA s) s.heap H locs) (hl : lv_has ls 4 [(3, .int i), (2, .ref g0), (1, .ref h0), (0, .ref b)]) (hend : ∀ (t : Int) (T : RwF) (g : Gs) (H : Heap) (locs : List Loc), ((0 ≤ t ∧ t ≤ 400) ∧ ivP 400 (-128) 127 T) → Gok g → Cs (eC l G k tC aX aV) t T g H → Ms (eM l G k tM aX aV) t T g H → va_S (lawA s) s.heap H locs → W pg_ l ev_ room_1 s mi_ #[Value.ref b] below_ meth cd_ H locs 294 18964 (lw_Z below_ #[Value.ref b] s) (F0 mi_ 1529 ls [])) : W pg_ l ev_ room_1 s mi_ #[Value.ref b] below_ meth cd_ H locs 294 18964 (lw_Z below_ #[Value.ref b] s) (F0 mi_ 866 ls []) := by
  obtain ⟨F, hK, hN, hOc, hOm, hX, hbl, hL, hTc, hTm, hdis, hh0, hg0⟩ := id B0
  obtain ⟨hx, hb, hr, hml, hown, hlk, hw, -⟩ := id F
  have hbA : ¬ lawA s b := fun q => absurd q (by unfold lawA; omega)
  obtain ⟨kr, ks, kb, x1, y1, x2, y2, x3, y3, x4, y4, Da1, Sa1, Qa1, Da2, Sa2, Qa2, Da3, Sa3, Qa3, Da4, Sa4, Qa4⟩ := g
  obtain ⟨X0, W0, V0, A0, B1, K0, Z, Y0, Y1, u, hu, hX0, hW0, hV0, hA0, hK0, hqX0, hmW0, hy0, hy1, hTie0, hM⟩ := hMs
  obtain ⟨ht, hT8⟩ := ht
  have hg : ((kr = [26] ∧ ks = [27]) ∨ (kr = [27] ∧ ks = [26])) ∧ (0 ≤ kb ∧ kb ≤ 3) ∧ (0 ≤ x1 ∧ x1 ≤ 12) ∧ (0 ≤ y1 ∧ y1 ≤ 14) ∧ (0 ≤ x2 ∧ x2 ≤ 12) ∧ (0 ≤ y2 ∧ y2 ≤ 14) ∧ (0 ≤ x3 ∧ x3 ≤ 12) ∧ (0 ≤ y3 ∧ y3 ≤ 14) ∧ (0 ≤ x4 ∧ x4 ≤ 12) ∧ (0 ≤ y4 ∧ y4 ≤ 14) ∧ ivP 12 (-2) 11 Da1 ∧ ivP 12 (-2147483648) 2147483647 Sa1 ∧ ivP 48 (-2147483648) 2147483647 Qa1 ∧ ivP 12 (-2) 11 Da2 ∧ ivP 12 (-2147483648) 2147483647 Sa2 ∧ ivP 48 (-2147483648) 2147483647 Qa2 ∧ ivP 12 (-2) 11 Da3 ∧ ivP 12 (-2147483648) 2147483647 Sa3 ∧ ivP 48 (-2147483648) 2147483647 Qa3 ∧ ivP 12 (-2) 11 Da4 ∧ ivP 12 (-2147483648) 2147483647 Sa4 ∧ ivP 48 (-2147483648) 2147483647 Qa4 := hg
  obtain ⟨hkk, hkb, hx1, hy1_, hx2, hy2_, hx3, hy3_, hx4, hy4_, hDa1, hSa1, hQa1, hDa2, hSa2, hQa2, hDa3, hSa3, hQa3, hDa4, hSa4, hQa4⟩ := hg
  have hC : TH (eC l G k tC aX aV) (tbC (dayD (.inl (0, 18))) (dayD (.inl (0, 18))) (riverD (.inl (x1, x1)) (.inl (y1, y1)) (.inl (0, 4)) 31 33 35 39 43 47) (riverD (.inl (x2, x2)) (.inl (y2, y2)) (.inl (0, 4)) 32 34 36 40 44 48) (rcD (.inl (t, t)) (.inr kr) (.inr ks) (.inl (kb, kb))) (rdD (.inl (0, 400)) (.inl (0, 400)) (.inl (0, 4000)) (.inl (0, 1)) (.inr [26, 27])) (xB 400 T) A14F A14F A4F A4F A14F A14F (riverD (.inl (x3, x3)) (.inl (y3, y3)) (.inl (0, 4)) 3 8 3 41 45 49) (riverD (.inl (x4, x4)) (.inl (y4, y4)) (.inl (0, 4)) 3 8 3 42 46 50) (xD 12 Da1) (xD 12 Da2) (xD 12 Da3) (xD 12 Da4) (xD 12 Sa1) (xD 12 Sa2) (xD 12 Sa3) (xD 12 Sa4) (xD 48 Qa1) (xD 48 Qa2) (xD 48 Qa3) (xD 48 Qa4)) H := hC
  have hTie : (kr = [26] → rowT x1 Da1 Sa1 Qa1 Z) ∧ (kr = [27] → rowT x2 Da2 Sa2 Qa2 Z) ∧ gI K0 0 = kb % 2 ∧ gI K0 1 = kb / 2 ∧ (kb % 2 = 1 → rowT x3 Da3 Sa3 Qa3 Y0) ∧ (kb / 2 = 1 → rowT x4 Da4 Sa4 Qa4 Y1) := hTie0
  clear hTie0
  have hk1 : (i + 1).toInt = i.toInt + 1 := by
    have h1 := i_add (x := i) (y := 1) (by rw [show (1 : Int32).toInt = 1 by decide]; omega) (by rw [show (1 : Int32).toInt = 1 by decide]; omega)
    rw [show (1 : Int32).toInt = 1 by decide] at h1
    exact h1
  have hk2 : (i + 2).toInt = i.toInt + 2 := by
    have h1 := i_add (x := i) (y := 2) (by rw [show (2 : Int32).toInt = 2 by decide]; omega) (by rw [show (2 : Int32).toInt = 2 by decide]; omega)
    rw [show (2 : Int32).toInt = 2 by decide] at h1
    exact h1
  refine lv_aload_n hx hb dL_law_866 rfl (lv_at hl 2 rfl) ?_
  refine lv_aload_n hx hb dL_law_867 rfl (lv_at hl 3 rfl) ?_
  refine lv_iload_n hx hb dL_law_868 rfl (lv_at hl 0 rfl) ?_
  refine lv_iconst (v := 1) hx hb dL_law_869 (by decide) ?_
  refine lv_iadd hx hb dL_law_870 ?_
  refine va_sld hx hb hX hbl hbA hS (vinT (by rw [hk1]; omega)) dL_law_871 ?_
  refine lv_topi (fun a1_0 ea1_0 => ?_)
  refine lv_aload_n hx hb dL_law_872 rfl (lv_at hl 3 rfl) ?_
  refine lv_iload_n hx hb dL_law_873 rfl (lv_at hl 0 rfl) ?_
  refine lv_iconst (v := 2) hx hb dL_law_874 (by decide) ?_
  refine lv_iadd hx hb dL_law_875 ?_
  refine va_sld hx hb hX hbl hbA hS (vinT (by rw [hk2]; omega)) dL_law_876 ?_
  refine lv_topi (fun a2_0 ea2_0 => ?_)
  have hkr : ∀ t ∈ kr, t ∈ [26, 27] := by rcases hkk with ⟨h9_, -⟩ | ⟨h9_, -⟩ <;> rw [h9_] <;> decide
  have hks : ∀ t ∈ ks, t ∈ [26, 27] := by rcases hkk with ⟨-, h9_⟩ | ⟨-, h9_⟩ <;> rw [h9_] <;> decide
  refine lawVi (E := (eC l G k tC aX aV)) (b := h0) (As := [.int a1_0, .int a2_0]) (rest := []) F hK hN hOc hTc (c_X6_futile (eC l G k tC aX aV) (rdD (.inl (0, 400)) (.inl (0, 400)) (.inl (0, 4000)) (.inl (0, 1)) (.inr [26, 27])) (xB 400 T) (kb, kb) (x1, x1) (y1, y1) (x2, x2) (y2, y2) (x3, x3) (y3, y3) (x4, x4) (y4, y4) kr ks (fun f_ => f_ = Da1) (fun f_ => f_ = Da2) (fun f_ => f_ = Da3) (fun f_ => f_ = Da4) (fun f_ => f_ = Sa1) (fun f_ => f_ = Sa2) (fun f_ => f_ = Sa3) (fun f_ => f_ = Sa4) (fun f_ => f_ = Qa1) (fun f_ => f_ = Qa2) (fun f_ => f_ = Qa3) (fun f_ => f_ = Qa4) t h0 a1_0 a2_0 (List.mem_singleton.mpr hh0) (by omega) (by show 0 ≤ x1 ∧ x1 ≤ 12; omega) (by show 0 ≤ y1 ∧ y1 ≤ 14; omega) (by show 0 ≤ x2 ∧ x2 ≤ 12; omega) (by show 0 ≤ y2 ∧ y2 ≤ 14; omega) (by show 0 ≤ x3 ∧ x3 ≤ 12; omega) (by show 0 ≤ y3 ∧ y3 ≤ 14; omega) (by show 0 ≤ x4 ∧ x4 ≤ 12; omega) (by show 0 ≤ y4 ∧ y4 ≤ 14; omega) hkr hks (fun f_ h_ => ivX hDa1 h_) (fun f_ h_ => ivX hDa2 h_) (fun f_ h_ => ivX hDa3 h_) (fun f_ h_ => ivX hDa4 h_) (fun f_ h_ => ivX hSa1 h_) (fun f_ h_ => ivX hSa2 h_) (fun f_ h_ => ivX hSa3 h_) (fun f_ h_ => ivX hSa4 h_) (fun f_ h_ => ivX hQa1 h_) (fun f_ h_ => ivX hQa2 h_) (fun f_ h_ => ivX hQa3 h_) (fun f_ h_ => ivX hQa4 h_)) mv_X6_futile wd_46_11 ⟨Nat.le_of_ble_eq_true rfl, Nat.le_of_ble_eq_true rfl⟩ ⟨Nat.le_of_ble_eq_true rfl, Nat.le_of_ble_eq_true rfl⟩ hC hS (tRecv hK hC (by rw [show eT (eC l G k tC aX aV) h0 = 28 from hh0]; rfl) clX6) rfl hl.1 (Nat.le_of_ble_eq_true rfl) dL_law_877 (fun v0 H1 locs hq hk_ hS => ?_)
  obtain ⟨f0_0, hN_⟩ := hq
  have hM := keptM hdis hM hk_
  have hC : TH (eC l G k tC aX aV) (tbC (dayD (.inl (0, 18))) (dayD (.inl (0, 18))) (riverD (.inl (x1, x1)) (.inl (y1, y1)) (.inl (0, 4)) 31 33 35 39 43 47) (riverD (.inl (x2, x2)) (.inl (y2, y2)) (.inl (0, 4)) 32 34 36 40 44 48) (rcD (.inl (t, t)) (.inr kr) (.inr ks) (.inl (kb, kb))) (rdD (.inl (0, 400)) (.inl (0, 400)) (.inl (0, 4000)) (.inl (0, 1)) (.inr [26, 27])) (xB 400 T) A14F A14F A4F A4F A14F A14F (riverD (.inl (x3, x3)) (.inl (y3, y3)) (.inl (0, 4)) 3 8 3 41 45 49) (riverD (.inl (x4, x4)) (.inl (y4, y4)) (.inl (0, 4)) 3 8 3 42 46 50) (xD 12 Da1) (xD 12 Da2) (xD 12 Da3) (xD 12 Da4) (xD 12 Sa1) (xD 12 Sa2) (xD 12 Sa3) (xD 12 Sa4) (xD 48 Qa1) (xD 48 Qa2) (xD 48 Qa3) (xD 48 Qa4)) H1 := hN_
  refine lv_pop hx hb dL_law_880 rfl ?_
  refine lv_aload_n hx hb dL_law_881 rfl (lv_at hl 1 rfl) ?_
  refine lv_aload_n hx hb dL_law_882 rfl (lv_at hl 3 rfl) ?_
  refine lv_iload_n hx hb dL_law_883 rfl (lv_at hl 0 rfl) ?_
  refine lv_iconst (v := 1) hx hb dL_law_884 (by decide) ?_
  refine lv_iadd hx hb dL_law_885 ?_
  refine va_sld hx hb hX hbl hbA hS (vinT (by rw [hk1]; omega)) dL_law_886 ?_
  refine lv_topi (fun a1_1 ea1_1 => ?_)
  obtain rfl : a1_0 = a1_1 := ea1_0.trans ea1_1.symm
  refine lv_aload_n hx hb dL_law_887 rfl (lv_at hl 3 rfl) ?_
  refine lv_iload_n hx hb dL_law_888 rfl (lv_at hl 0 rfl) ?_
  refine lv_iconst (v := 2) hx hb dL_law_889 (by decide) ?_
  refine lv_iadd hx hb dL_law_890 ?_
  refine va_sld hx hb hX hbl hbA hS (vinT (by rw [hk2]; omega)) dL_law_891 ?_
  refine lv_topi (fun a2_1 ea2_1 => ?_)
  obtain rfl : a2_0 = a2_1 := ea2_0.trans ea2_1.symm
  refine lawVi (E := (eM l G k tM aX aV)) (b := g0) (As := [.int a1_0, .int a2_0]) (rest := []) F hK hN hOm hTm (c_X7_futile (eM l G k tM aX aV) (xD 6600 W0) (xD 1320 V0) (xD 660 A0) (xD 660 B1) (xB 400 T) (xZ 2 K0) (u, u) (((-2147483648), 2147483647)) (t, t) (((-2147483648), 2147483647)) (0, 4000) (((-2147483648), 2147483647)) (((-2147483648), 2147483647)) (0, 1) X0 g0 a1_0 a2_0 (List.mem_singleton.mpr hg0) hX0) mv_X7_futile wd_46_15 ⟨Nat.le_of_ble_eq_true rfl, Nat.le_of_ble_eq_true rfl⟩ ⟨Nat.le_of_ble_eq_true rfl, Nat.le_of_ble_eq_true rfl⟩ hM hS (tRecv hK hM (by rw [show eT (eM l G k tM aX aV) g0 = 24 from hg0]; rfl) clX7) rfl hl.1 (Nat.le_of_ble_eq_true rfl) dL_law_892 (fun v1 H1 locs hq hk_ hS => ?_)
  obtain ⟨f1_0, hN_⟩ := hq
  have hC := keptC hdis hC hk_
  have hM : TH (eM l G k tM aX aV) (tbM (mD (.inl (t, t)) (.inl (-2147483648, 2147483647)) (.inl (-2147483648, 2147483647)) (.inl (u, u)) (.inl (0, 18)) (.inl (-2147483648, 2147483647)) (.inl (0, 4000)) (.inl (-2147483648, 2147483647)) (.inl (0, 1))) (xD 660 X0) (xD 6600 W0) (xD 1320 V0) (xD 660 A0) (xD 660 B1) m_second (xB 400 T) (xZ 2 K0)) H1 := hN_
  refine lv_pop hx hb dL_law_895 rfl ?_
  refine lv_goto (tgt := 1529) hx hb dL_law_896 (by decide) ?_
  have hG_ : ((kr = [26] ∧ ks = [27]) ∨ (kr = [27] ∧ ks = [26])) ∧ (0 ≤ kb ∧ kb ≤ 3) ∧ (0 ≤ x1 ∧ x1 ≤ 12) ∧ (0 ≤ y1 ∧ y1 ≤ 14) ∧ (0 ≤ x2 ∧ x2 ≤ 12) ∧ (0 ≤ y2 ∧ y2 ≤ 14) ∧ (0 ≤ x3 ∧ x3 ≤ 12) ∧ (0 ≤ y3 ∧ y3 ≤ 14) ∧ (0 ≤ x4 ∧ x4 ≤ 12) ∧ (0 ≤ y4 ∧ y4 ≤ 14) ∧ ivP 12 (-2) 11 Da1 ∧ ivP 12 (-2147483648) 2147483647 Sa1 ∧ ivP 48 (-2147483648) 2147483647 Qa1 ∧ ivP 12 (-2) 11 Da2 ∧ ivP 12 (-2147483648) 2147483647 Sa2 ∧ ivP 48 (-2147483648) 2147483647 Qa2 ∧ ivP 12 (-2) 11 Da3 ∧ ivP 12 (-2147483648) 2147483647 Sa3 ∧ ivP 48 (-2147483648) 2147483647 Qa3 ∧ ivP 12 (-2) 11 Da4 ∧ ivP 12 (-2147483648) 2147483647 Sa4 ∧ ivP 48 (-2147483648) 2147483647 Qa4 := ⟨hkk, (by omega), (by omega), (by omega), (by omega), (by omega), (by omega), (by omega), (by omega), (by omega), hDa1, hSa1, hQa1, hDa2, hSa2, hQa2, hDa3, hSa3, hQa3, hDa4, hSa4, hQa4⟩
  exact hend t T (kr, ks, kb, x1, y1, x2, y2, x3, y3, x4, y4, Da1, Sa1, Qa1, Da2, Sa2, Qa2, Da3, Sa3, Qa3, Da4, Sa4, Qa4) _ _ ⟨(by omega), hT8⟩ hG_ hC ⟨X0, W0, V0, A0, B1, K0, Z, Y0, Y1, u, (by omega), hX0, hW0, hV0, hA0, hK0, hqX0, hmW0, hy0, hy1, hTie, hM⟩ hS
set_option maxHeartbeats 4000000 in
set_option maxRecDepth 100000 in
theorem law_c23 {pg_ : Program} {l : Launch} {ev_ : Env} {s : State} {mi_ : MethodId} {below_ : List Frame} {meth : Method} {cd_ : Code} {H : Heap} {locs : List Loc} {ls : Array Slot} {b L : Nat} {xs : Nat → Int32} {G : va_G} {k : Nat → ClassId} {tC tM aX aV : Nat → Nat} {h0 g0 : Nat} {i : Int32} {t : Int} {T : RwF} {g : Gs} (B0 : LB pg_ s mi_ meth cd_ b L xs l G k tC tM aX aV h0 g0) (hi : 0 ≤ i.toInt ∧ i.toInt + 6 ≤ L) (ht : (0 ≤ t ∧ t ≤ 400) ∧ ivP 400 (-128) 127 T) (hg : Gok g) (hC : Cs (eC l G k tC aX aV) t T g H) (hMs : Ms (eM l G k tM aX aV) t T g H) (hS : va_S (lawA s) s.heap H locs) (hl : lv_has ls 4 [(3, .int i), (2, .ref g0), (1, .ref h0), (0, .ref b)]) (hend : ∀ (t : Int) (T : RwF) (g : Gs) (H : Heap) (locs : List Loc), ((0 ≤ t ∧ t ≤ 400) ∧ ivP 400 (-128) 127 T) → Gok g → Cs (eC l G k tC aX aV) t T g H → Ms (eM l G k tM aX aV) t T g H → va_S (lawA s) s.heap H locs → W pg_ l ev_ room_1 s mi_ #[Value.ref b] below_ meth cd_ H locs 294 18964 (lw_Z below_ #[Value.ref b] s) (F0 mi_ 1529 ls [])) : W pg_ l ev_ room_1 s mi_ #[Value.ref b] below_ meth cd_ H locs 294 18964 (lw_Z below_ #[Value.ref b] s) (F0 mi_ 899 ls []) := by
  obtain ⟨F, hK, hN, hOc, hOm, hX, hbl, hL, hTc, hTm, hdis, hh0, hg0⟩ := id B0
  obtain ⟨hx, hb, hr, hml, hown, hlk, hw, -⟩ := id F
  have hbA : ¬ lawA s b := fun q => absurd q (by unfold lawA; omega)
  obtain ⟨kr, ks, kb, x1, y1, x2, y2, x3, y3, x4, y4, Da1, Sa1, Qa1, Da2, Sa2, Qa2, Da3, Sa3, Qa3, Da4, Sa4, Qa4⟩ := g
  obtain ⟨X0, W0, V0, A0, B1, K0, Z, Y0, Y1, u, hu, hX0, hW0, hV0, hA0, hK0, hqX0, hmW0, hy0, hy1, hTie0, hM⟩ := hMs
  obtain ⟨ht, hT8⟩ := ht
  have hg : ((kr = [26] ∧ ks = [27]) ∨ (kr = [27] ∧ ks = [26])) ∧ (0 ≤ kb ∧ kb ≤ 3) ∧ (0 ≤ x1 ∧ x1 ≤ 12) ∧ (0 ≤ y1 ∧ y1 ≤ 14) ∧ (0 ≤ x2 ∧ x2 ≤ 12) ∧ (0 ≤ y2 ∧ y2 ≤ 14) ∧ (0 ≤ x3 ∧ x3 ≤ 12) ∧ (0 ≤ y3 ∧ y3 ≤ 14) ∧ (0 ≤ x4 ∧ x4 ≤ 12) ∧ (0 ≤ y4 ∧ y4 ≤ 14) ∧ ivP 12 (-2) 11 Da1 ∧ ivP 12 (-2147483648) 2147483647 Sa1 ∧ ivP 48 (-2147483648) 2147483647 Qa1 ∧ ivP 12 (-2) 11 Da2 ∧ ivP 12 (-2147483648) 2147483647 Sa2 ∧ ivP 48 (-2147483648) 2147483647 Qa2 ∧ ivP 12 (-2) 11 Da3 ∧ ivP 12 (-2147483648) 2147483647 Sa3 ∧ ivP 48 (-2147483648) 2147483647 Qa3 ∧ ivP 12 (-2) 11 Da4 ∧ ivP 12 (-2147483648) 2147483647 Sa4 ∧ ivP 48 (-2147483648) 2147483647 Qa4 := hg
  obtain ⟨hkk, hkb, hx1, hy1_, hx2, hy2_, hx3, hy3_, hx4, hy4_, hDa1, hSa1, hQa1, hDa2, hSa2, hQa2, hDa3, hSa3, hQa3, hDa4, hSa4, hQa4⟩ := hg
  have hC : TH (eC l G k tC aX aV) (tbC (dayD (.inl (0, 18))) (dayD (.inl (0, 18))) (riverD (.inl (x1, x1)) (.inl (y1, y1)) (.inl (0, 4)) 31 33 35 39 43 47) (riverD (.inl (x2, x2)) (.inl (y2, y2)) (.inl (0, 4)) 32 34 36 40 44 48) (rcD (.inl (t, t)) (.inr kr) (.inr ks) (.inl (kb, kb))) (rdD (.inl (0, 400)) (.inl (0, 400)) (.inl (0, 4000)) (.inl (0, 1)) (.inr [26, 27])) (xB 400 T) A14F A14F A4F A4F A14F A14F (riverD (.inl (x3, x3)) (.inl (y3, y3)) (.inl (0, 4)) 3 8 3 41 45 49) (riverD (.inl (x4, x4)) (.inl (y4, y4)) (.inl (0, 4)) 3 8 3 42 46 50) (xD 12 Da1) (xD 12 Da2) (xD 12 Da3) (xD 12 Da4) (xD 12 Sa1) (xD 12 Sa2) (xD 12 Sa3) (xD 12 Sa4) (xD 48 Qa1) (xD 48 Qa2) (xD 48 Qa3) (xD 48 Qa4)) H := hC
  have hTie : (kr = [26] → rowT x1 Da1 Sa1 Qa1 Z) ∧ (kr = [27] → rowT x2 Da2 Sa2 Qa2 Z) ∧ gI K0 0 = kb % 2 ∧ gI K0 1 = kb / 2 ∧ (kb % 2 = 1 → rowT x3 Da3 Sa3 Qa3 Y0) ∧ (kb / 2 = 1 → rowT x4 Da4 Sa4 Qa4 Y1) := hTie0
  clear hTie0
  have hk1 : (i + 1).toInt = i.toInt + 1 := by
    have h1 := i_add (x := i) (y := 1) (by rw [show (1 : Int32).toInt = 1 by decide]; omega) (by rw [show (1 : Int32).toInt = 1 by decide]; omega)
    rw [show (1 : Int32).toInt = 1 by decide] at h1
    exact h1
  refine lv_aload_n hx hb dL_law_899 rfl (lv_at hl 2 rfl) ?_
  refine lv_aload_n hx hb dL_law_900 rfl (lv_at hl 3 rfl) ?_
  refine lv_iload_n hx hb dL_law_901 rfl (lv_at hl 0 rfl) ?_
  refine lv_iconst (v := 1) hx hb dL_law_902 (by decide) ?_
  refine lv_iadd hx hb dL_law_903 ?_
  refine va_sld hx hb hX hbl hbA hS (vinT (by rw [hk1]; omega)) dL_law_904 ?_
  refine lv_topi (fun a1_0 ea1_0 => ?_)
  have hkr : ∀ t ∈ kr, t ∈ [26, 27] := by rcases hkk with ⟨h9_, -⟩ | ⟨h9_, -⟩ <;> rw [h9_] <;> decide
  have hks : ∀ t ∈ ks, t ∈ [26, 27] := by rcases hkk with ⟨-, h9_⟩ | ⟨-, h9_⟩ <;> rw [h9_] <;> decide
  refine lawVi (E := (eC l G k tC aX aV)) (b := h0) (As := [.int a1_0]) (rest := []) F hK hN hOc hTc (c_X6_needs (eC l G k tC aX aV) (rdD (.inl (0, 400)) (.inl (0, 400)) (.inl (0, 4000)) (.inl (0, 1)) (.inr [26, 27])) (xB 400 T) (kb, kb) (x1, x1) (y1, y1) (x2, x2) (y2, y2) (x3, x3) (y3, y3) (x4, x4) (y4, y4) kr ks (fun f_ => f_ = Da1) (fun f_ => f_ = Da2) (fun f_ => f_ = Da3) (fun f_ => f_ = Da4) (fun f_ => f_ = Sa1) (fun f_ => f_ = Sa2) (fun f_ => f_ = Sa3) (fun f_ => f_ = Sa4) (fun f_ => f_ = Qa1) (fun f_ => f_ = Qa2) (fun f_ => f_ = Qa3) (fun f_ => f_ = Qa4) t h0 a1_0 (List.mem_singleton.mpr hh0) (by omega) (by show 0 ≤ x1 ∧ x1 ≤ 12; omega) (by show 0 ≤ y1 ∧ y1 ≤ 14; omega) (by show 0 ≤ x2 ∧ x2 ≤ 12; omega) (by show 0 ≤ y2 ∧ y2 ≤ 14; omega) (by show 0 ≤ x3 ∧ x3 ≤ 12; omega) (by show 0 ≤ y3 ∧ y3 ≤ 14; omega) (by show 0 ≤ x4 ∧ x4 ≤ 12; omega) (by show 0 ≤ y4 ∧ y4 ≤ 14; omega) hkr hks (fun f_ h_ => ivX hDa1 h_) (fun f_ h_ => ivX hDa2 h_) (fun f_ h_ => ivX hDa3 h_) (fun f_ h_ => ivX hDa4 h_) (fun f_ h_ => ivX hSa1 h_) (fun f_ h_ => ivX hSa2 h_) (fun f_ h_ => ivX hSa3 h_) (fun f_ h_ => ivX hSa4 h_) (fun f_ h_ => ivX hQa1 h_) (fun f_ h_ => ivX hQa2 h_) (fun f_ h_ => ivX hQa3 h_) (fun f_ h_ => ivX hQa4 h_)) mv_X6_needs wd_46_19 ⟨Nat.le_of_ble_eq_true rfl, Nat.le_of_ble_eq_true rfl⟩ ⟨Nat.le_of_ble_eq_true rfl, Nat.le_of_ble_eq_true rfl⟩ hC hS (tRecv hK hC (by rw [show eT (eC l G k tC aX aV) h0 = 28 from hh0]; rfl) clX6) rfl hl.1 (Nat.le_of_ble_eq_true rfl) dL_law_905 (fun v0 H1 locs hq hk_ hS => ?_)
  obtain ⟨f0_0, hN_⟩ := hq
  have hM := keptM hdis hM hk_
  have hC : TH (eC l G k tC aX aV) (tbC (dayD (.inl (0, 18))) (dayD (.inl (0, 18))) (riverD (.inl (x1, x1)) (.inl (y1, y1)) (.inl (0, 4)) 31 33 35 39 43 47) (riverD (.inl (x2, x2)) (.inl (y2, y2)) (.inl (0, 4)) 32 34 36 40 44 48) (rcD (.inl (t, t)) (.inr kr) (.inr ks) (.inl (kb, kb))) (rdD (.inl (0, 400)) (.inl (0, 400)) (.inl (0, 4000)) (.inl (0, 1)) (.inr [26, 27])) (xB 400 T) A14F A14F A4F A4F A14F A14F (riverD (.inl (x3, x3)) (.inl (y3, y3)) (.inl (0, 4)) 3 8 3 41 45 49) (riverD (.inl (x4, x4)) (.inl (y4, y4)) (.inl (0, 4)) 3 8 3 42 46 50) (xD 12 Da1) (xD 12 Da2) (xD 12 Da3) (xD 12 Da4) (xD 12 Sa1) (xD 12 Sa2) (xD 12 Sa3) (xD 12 Sa4) (xD 48 Qa1) (xD 48 Qa2) (xD 48 Qa3) (xD 48 Qa4)) H1 := hN_
  refine lv_pop hx hb dL_law_908 rfl ?_
  refine lv_aload_n hx hb dL_law_909 rfl (lv_at hl 1 rfl) ?_
  refine lv_aload_n hx hb dL_law_910 rfl (lv_at hl 3 rfl) ?_
  refine lv_iload_n hx hb dL_law_911 rfl (lv_at hl 0 rfl) ?_
  refine lv_iconst (v := 1) hx hb dL_law_912 (by decide) ?_
  refine lv_iadd hx hb dL_law_913 ?_
  refine va_sld hx hb hX hbl hbA hS (vinT (by rw [hk1]; omega)) dL_law_914 ?_
  refine lv_topi (fun a1_1 ea1_1 => ?_)
  obtain rfl : a1_0 = a1_1 := ea1_0.trans ea1_1.symm
  refine lawVi (E := (eM l G k tM aX aV)) (b := g0) (As := [.int a1_0]) (rest := []) F hK hN hOm hTm (c_X7_needs (eM l G k tM aX aV) (xD 6600 W0) (xD 1320 V0) (xD 660 A0) (xD 660 B1) (xB 400 T) (xZ 2 K0) (u, u) (((-2147483648), 2147483647)) (t, t) (((-2147483648), 2147483647)) (0, 4000) (((-2147483648), 2147483647)) (((-2147483648), 2147483647)) (0, 1) X0 Z g0 a1_0 (List.mem_singleton.mpr hg0) hX0 hqX0) mv_X7_needs wd_47_4 ⟨Nat.le_of_ble_eq_true rfl, Nat.le_of_ble_eq_true rfl⟩ ⟨Nat.le_of_ble_eq_true rfl, Nat.le_of_ble_eq_true rfl⟩ hM hS (tRecv hK hM (by rw [show eT (eM l G k tM aX aV) g0 = 24 from hg0]; rfl) clX7) rfl hl.1 (Nat.le_of_ble_eq_true rfl) dL_law_915 (fun v1 H1 locs hq hk_ hS => ?_)
  obtain ⟨X2_1, hX2_1, f1_0, hN_⟩ := hq
  have hC := keptC hdis hC hk_
  have hM : TH (eM l G k tM aX aV) (tbM (mD (.inl (t, t)) (.inl (-2147483648, 2147483647)) (.inl (-2147483648, 2147483647)) (.inl (u, u)) (.inl (0, 18)) (.inl (-2147483648, 2147483647)) (.inl (0, 4000)) (.inl (-2147483648, 2147483647)) (.inl (0, 1))) (xD 660 X2_1) (xD 6600 W0) (xD 1320 V0) (xD 660 A0) (xD 660 B1) m_second (xB 400 T) (xZ 2 K0)) H1 := hN_
  refine lv_pop hx hb dL_law_918 rfl ?_
  refine lv_goto (tgt := 1529) hx hb dL_law_919 (by decide) ?_
  have hG_ : ((kr = [26] ∧ ks = [27]) ∨ (kr = [27] ∧ ks = [26])) ∧ (0 ≤ kb ∧ kb ≤ 3) ∧ (0 ≤ x1 ∧ x1 ≤ 12) ∧ (0 ≤ y1 ∧ y1 ≤ 14) ∧ (0 ≤ x2 ∧ x2 ≤ 12) ∧ (0 ≤ y2 ∧ y2 ≤ 14) ∧ (0 ≤ x3 ∧ x3 ≤ 12) ∧ (0 ≤ y3 ∧ y3 ≤ 14) ∧ (0 ≤ x4 ∧ x4 ≤ 12) ∧ (0 ≤ y4 ∧ y4 ≤ 14) ∧ ivP 12 (-2) 11 Da1 ∧ ivP 12 (-2147483648) 2147483647 Sa1 ∧ ivP 48 (-2147483648) 2147483647 Qa1 ∧ ivP 12 (-2) 11 Da2 ∧ ivP 12 (-2147483648) 2147483647 Sa2 ∧ ivP 48 (-2147483648) 2147483647 Qa2 ∧ ivP 12 (-2) 11 Da3 ∧ ivP 12 (-2147483648) 2147483647 Sa3 ∧ ivP 48 (-2147483648) 2147483647 Qa3 ∧ ivP 12 (-2) 11 Da4 ∧ ivP 12 (-2147483648) 2147483647 Sa4 ∧ ivP 48 (-2147483648) 2147483647 Qa4 := ⟨hkk, (by omega), (by omega), (by omega), (by omega), (by omega), (by omega), (by omega), (by omega), (by omega), hDa1, hSa1, hQa1, hDa2, hSa2, hQa2, hDa3, hSa3, hQa3, hDa4, hSa4, hQa4⟩
  exact hend t T (kr, ks, kb, x1, y1, x2, y2, x3, y3, x4, y4, Da1, Sa1, Qa1, Da2, Sa2, Qa2, Da3, Sa3, Qa3, Da4, Sa4, Qa4) _ _ ⟨(by omega), hT8⟩ hG_ hC ⟨X2_1, W0, V0, A0, B1, K0, Z, Y0, Y1, u, (by omega), hX2_1.1, hW0, hV0, hA0, hK0, hX2_1.2, hmW0, hy0, hy1, hTie, hM⟩ hS
set_option maxHeartbeats 4000000 in
set_option maxRecDepth 100000 in
theorem law_c24 {pg_ : Program} {l : Launch} {ev_ : Env} {s : State} {mi_ : MethodId} {below_ : List Frame} {meth : Method} {cd_ : Code} {H : Heap} {locs : List Loc} {ls : Array Slot} {b L : Nat} {xs : Nat → Int32} {G : va_G} {k : Nat → ClassId} {tC tM aX aV : Nat → Nat} {h0 g0 : Nat} {i : Int32} {t : Int} {T : RwF} {g : Gs} (B0 : LB pg_ s mi_ meth cd_ b L xs l G k tC tM aX aV h0 g0) (hi : 0 ≤ i.toInt ∧ i.toInt + 6 ≤ L) (ht : (0 ≤ t ∧ t ≤ 400) ∧ ivP 400 (-128) 127 T) (hg : Gok g) (hC : Cs (eC l G k tC aX aV) t T g H) (hMs : Ms (eM l G k tM aX aV) t T g H) (hS : va_S (lawA s) s.heap H locs) (hl : lv_has ls 4 [(3, .int i), (2, .ref g0), (1, .ref h0), (0, .ref b)]) (hend : ∀ (t : Int) (T : RwF) (g : Gs) (H : Heap) (locs : List Loc), ((0 ≤ t ∧ t ≤ 400) ∧ ivP 400 (-128) 127 T) → Gok g → Cs (eC l G k tC aX aV) t T g H → Ms (eM l G k tM aX aV) t T g H → va_S (lawA s) s.heap H locs → W pg_ l ev_ room_1 s mi_ #[Value.ref b] below_ meth cd_ H locs 294 18964 (lw_Z below_ #[Value.ref b] s) (F0 mi_ 1529 ls [])) : W pg_ l ev_ room_1 s mi_ #[Value.ref b] below_ meth cd_ H locs 294 18964 (lw_Z below_ #[Value.ref b] s) (F0 mi_ 922 ls []) := by
  obtain ⟨F, hK, hN, hOc, hOm, hX, hbl, hL, hTc, hTm, hdis, hh0, hg0⟩ := id B0
  obtain ⟨hx, hb, hr, hml, hown, hlk, hw, -⟩ := id F
  have hbA : ¬ lawA s b := fun q => absurd q (by unfold lawA; omega)
  obtain ⟨kr, ks, kb, x1, y1, x2, y2, x3, y3, x4, y4, Da1, Sa1, Qa1, Da2, Sa2, Qa2, Da3, Sa3, Qa3, Da4, Sa4, Qa4⟩ := g
  obtain ⟨X0, W0, V0, A0, B1, K0, Z, Y0, Y1, u, hu, hX0, hW0, hV0, hA0, hK0, hqX0, hmW0, hy0, hy1, hTie0, hM⟩ := hMs
  obtain ⟨ht, hT8⟩ := ht
  have hg : ((kr = [26] ∧ ks = [27]) ∨ (kr = [27] ∧ ks = [26])) ∧ (0 ≤ kb ∧ kb ≤ 3) ∧ (0 ≤ x1 ∧ x1 ≤ 12) ∧ (0 ≤ y1 ∧ y1 ≤ 14) ∧ (0 ≤ x2 ∧ x2 ≤ 12) ∧ (0 ≤ y2 ∧ y2 ≤ 14) ∧ (0 ≤ x3 ∧ x3 ≤ 12) ∧ (0 ≤ y3 ∧ y3 ≤ 14) ∧ (0 ≤ x4 ∧ x4 ≤ 12) ∧ (0 ≤ y4 ∧ y4 ≤ 14) ∧ ivP 12 (-2) 11 Da1 ∧ ivP 12 (-2147483648) 2147483647 Sa1 ∧ ivP 48 (-2147483648) 2147483647 Qa1 ∧ ivP 12 (-2) 11 Da2 ∧ ivP 12 (-2147483648) 2147483647 Sa2 ∧ ivP 48 (-2147483648) 2147483647 Qa2 ∧ ivP 12 (-2) 11 Da3 ∧ ivP 12 (-2147483648) 2147483647 Sa3 ∧ ivP 48 (-2147483648) 2147483647 Qa3 ∧ ivP 12 (-2) 11 Da4 ∧ ivP 12 (-2147483648) 2147483647 Sa4 ∧ ivP 48 (-2147483648) 2147483647 Qa4 := hg
  obtain ⟨hkk, hkb, hx1, hy1_, hx2, hy2_, hx3, hy3_, hx4, hy4_, hDa1, hSa1, hQa1, hDa2, hSa2, hQa2, hDa3, hSa3, hQa3, hDa4, hSa4, hQa4⟩ := hg
  have hC : TH (eC l G k tC aX aV) (tbC (dayD (.inl (0, 18))) (dayD (.inl (0, 18))) (riverD (.inl (x1, x1)) (.inl (y1, y1)) (.inl (0, 4)) 31 33 35 39 43 47) (riverD (.inl (x2, x2)) (.inl (y2, y2)) (.inl (0, 4)) 32 34 36 40 44 48) (rcD (.inl (t, t)) (.inr kr) (.inr ks) (.inl (kb, kb))) (rdD (.inl (0, 400)) (.inl (0, 400)) (.inl (0, 4000)) (.inl (0, 1)) (.inr [26, 27])) (xB 400 T) A14F A14F A4F A4F A14F A14F (riverD (.inl (x3, x3)) (.inl (y3, y3)) (.inl (0, 4)) 3 8 3 41 45 49) (riverD (.inl (x4, x4)) (.inl (y4, y4)) (.inl (0, 4)) 3 8 3 42 46 50) (xD 12 Da1) (xD 12 Da2) (xD 12 Da3) (xD 12 Da4) (xD 12 Sa1) (xD 12 Sa2) (xD 12 Sa3) (xD 12 Sa4) (xD 48 Qa1) (xD 48 Qa2) (xD 48 Qa3) (xD 48 Qa4)) H := hC
  have hTie : (kr = [26] → rowT x1 Da1 Sa1 Qa1 Z) ∧ (kr = [27] → rowT x2 Da2 Sa2 Qa2 Z) ∧ gI K0 0 = kb % 2 ∧ gI K0 1 = kb / 2 ∧ (kb % 2 = 1 → rowT x3 Da3 Sa3 Qa3 Y0) ∧ (kb / 2 = 1 → rowT x4 Da4 Sa4 Qa4 Y1) := hTie0
  clear hTie0
  have hk1 : (i + 1).toInt = i.toInt + 1 := by
    have h1 := i_add (x := i) (y := 1) (by rw [show (1 : Int32).toInt = 1 by decide]; omega) (by rw [show (1 : Int32).toInt = 1 by decide]; omega)
    rw [show (1 : Int32).toInt = 1 by decide] at h1
    exact h1
  have hk2 : (i + 2).toInt = i.toInt + 2 := by
    have h1 := i_add (x := i) (y := 2) (by rw [show (2 : Int32).toInt = 2 by decide]; omega) (by rw [show (2 : Int32).toInt = 2 by decide]; omega)
    rw [show (2 : Int32).toInt = 2 by decide] at h1
    exact h1
  have hk3 : (i + 3).toInt = i.toInt + 3 := by
    have h1 := i_add (x := i) (y := 3) (by rw [show (3 : Int32).toInt = 3 by decide]; omega) (by rw [show (3 : Int32).toInt = 3 by decide]; omega)
    rw [show (3 : Int32).toInt = 3 by decide] at h1
    exact h1
  refine lv_aload_n hx hb dL_law_922 rfl (lv_at hl 2 rfl) ?_
  refine lv_aload_n hx hb dL_law_923 rfl (lv_at hl 3 rfl) ?_
  refine lv_iload_n hx hb dL_law_924 rfl (lv_at hl 0 rfl) ?_
  refine lv_iconst (v := 1) hx hb dL_law_925 (by decide) ?_
  refine lv_iadd hx hb dL_law_926 ?_
  refine va_sld hx hb hX hbl hbA hS (vinT (by rw [hk1]; omega)) dL_law_927 ?_
  refine lv_topi (fun a1_0 ea1_0 => ?_)
  refine lv_aload_n hx hb dL_law_928 rfl (lv_at hl 3 rfl) ?_
  refine lv_iload_n hx hb dL_law_929 rfl (lv_at hl 0 rfl) ?_
  refine lv_iconst (v := 2) hx hb dL_law_930 (by decide) ?_
  refine lv_iadd hx hb dL_law_931 ?_
  refine va_sld hx hb hX hbl hbA hS (vinT (by rw [hk2]; omega)) dL_law_932 ?_
  refine lv_topi (fun a2_0 ea2_0 => ?_)
  refine lv_aload_n hx hb dL_law_933 rfl (lv_at hl 3 rfl) ?_
  refine lv_iload_n hx hb dL_law_934 rfl (lv_at hl 0 rfl) ?_
  refine lv_iconst (v := 3) hx hb dL_law_935 (by decide) ?_
  refine lv_iadd hx hb dL_law_936 ?_
  refine va_sld hx hb hX hbl hbA hS (vinT (by rw [hk3]; omega)) dL_law_937 ?_
  refine lv_topi (fun a3_0 ea3_0 => ?_)
  have hkr : ∀ t ∈ kr, t ∈ [26, 27] := by rcases hkk with ⟨h9_, -⟩ | ⟨h9_, -⟩ <;> rw [h9_] <;> decide
  have hks : ∀ t ∈ ks, t ∈ [26, 27] := by rcases hkk with ⟨-, h9_⟩ | ⟨-, h9_⟩ <;> rw [h9_] <;> decide
  refine lawVi (E := (eC l G k tC aX aV)) (b := h0) (As := [.int a1_0, .int a2_0, .int a3_0]) (rest := []) F hK hN hOc hTc (c_X6_firm (eC l G k tC aX aV) (rdD (.inl (0, 400)) (.inl (0, 400)) (.inl (0, 4000)) (.inl (0, 1)) (.inr [26, 27])) (xB 400 T) (kb, kb) (x1, x1) (y1, y1) (x2, x2) (y2, y2) (x3, x3) (y3, y3) (x4, x4) (y4, y4) kr ks (fun f_ => f_ = Da1) (fun f_ => f_ = Da2) (fun f_ => f_ = Da3) (fun f_ => f_ = Da4) (fun f_ => f_ = Sa1) (fun f_ => f_ = Sa2) (fun f_ => f_ = Sa3) (fun f_ => f_ = Sa4) (fun f_ => f_ = Qa1) (fun f_ => f_ = Qa2) (fun f_ => f_ = Qa3) (fun f_ => f_ = Qa4) t h0 a1_0 a2_0 a3_0 (List.mem_singleton.mpr hh0) (by omega) (by show 0 ≤ x1 ∧ x1 ≤ 12; omega) (by show 0 ≤ y1 ∧ y1 ≤ 14; omega) (by show 0 ≤ x2 ∧ x2 ≤ 12; omega) (by show 0 ≤ y2 ∧ y2 ≤ 14; omega) (by show 0 ≤ x3 ∧ x3 ≤ 12; omega) (by show 0 ≤ y3 ∧ y3 ≤ 14; omega) (by show 0 ≤ x4 ∧ x4 ≤ 12; omega) (by show 0 ≤ y4 ∧ y4 ≤ 14; omega) hkr hks (fun f_ h_ => ivX hDa1 h_) (fun f_ h_ => ivX hDa2 h_) (fun f_ h_ => ivX hDa3 h_) (fun f_ h_ => ivX hDa4 h_) (fun f_ h_ => ivX hSa1 h_) (fun f_ h_ => ivX hSa2 h_) (fun f_ h_ => ivX hSa3 h_) (fun f_ h_ => ivX hSa4 h_) (fun f_ h_ => ivX hQa1 h_) (fun f_ h_ => ivX hQa2 h_) (fun f_ h_ => ivX hQa3 h_) (fun f_ h_ => ivX hQa4 h_)) mv_X6_firm wd_47_8 ⟨Nat.le_of_ble_eq_true rfl, Nat.le_of_ble_eq_true rfl⟩ ⟨Nat.le_of_ble_eq_true rfl, Nat.le_of_ble_eq_true rfl⟩ hC hS (tRecv hK hC (by rw [show eT (eC l G k tC aX aV) h0 = 28 from hh0]; rfl) clX6) rfl hl.1 (Nat.le_of_ble_eq_true rfl) dL_law_938 (fun v0 H1 locs hq hk_ hS => ?_)
  obtain ⟨f0_0, hN_⟩ := hq
  have hM := keptM hdis hM hk_
  have hC : TH (eC l G k tC aX aV) (tbC (dayD (.inl (0, 18))) (dayD (.inl (0, 18))) (riverD (.inl (x1, x1)) (.inl (y1, y1)) (.inl (0, 4)) 31 33 35 39 43 47) (riverD (.inl (x2, x2)) (.inl (y2, y2)) (.inl (0, 4)) 32 34 36 40 44 48) (rcD (.inl (t, t)) (.inr kr) (.inr ks) (.inl (kb, kb))) (rdD (.inl (0, 400)) (.inl (0, 400)) (.inl (0, 4000)) (.inl (0, 1)) (.inr [26, 27])) (xB 400 T) A14F A14F A4F A4F A14F A14F (riverD (.inl (x3, x3)) (.inl (y3, y3)) (.inl (0, 4)) 3 8 3 41 45 49) (riverD (.inl (x4, x4)) (.inl (y4, y4)) (.inl (0, 4)) 3 8 3 42 46 50) (xD 12 Da1) (xD 12 Da2) (xD 12 Da3) (xD 12 Da4) (xD 12 Sa1) (xD 12 Sa2) (xD 12 Sa3) (xD 12 Sa4) (xD 48 Qa1) (xD 48 Qa2) (xD 48 Qa3) (xD 48 Qa4)) H1 := hN_
  refine lv_pop hx hb dL_law_941 rfl ?_
  refine lv_aload_n hx hb dL_law_942 rfl (lv_at hl 1 rfl) ?_
  refine lv_aload_n hx hb dL_law_943 rfl (lv_at hl 3 rfl) ?_
  refine lv_iload_n hx hb dL_law_944 rfl (lv_at hl 0 rfl) ?_
  refine lv_iconst (v := 1) hx hb dL_law_945 (by decide) ?_
  refine lv_iadd hx hb dL_law_946 ?_
  refine va_sld hx hb hX hbl hbA hS (vinT (by rw [hk1]; omega)) dL_law_947 ?_
  refine lv_topi (fun a1_1 ea1_1 => ?_)
  obtain rfl : a1_0 = a1_1 := ea1_0.trans ea1_1.symm
  refine lv_aload_n hx hb dL_law_948 rfl (lv_at hl 3 rfl) ?_
  refine lv_iload_n hx hb dL_law_949 rfl (lv_at hl 0 rfl) ?_
  refine lv_iconst (v := 2) hx hb dL_law_950 (by decide) ?_
  refine lv_iadd hx hb dL_law_951 ?_
  refine va_sld hx hb hX hbl hbA hS (vinT (by rw [hk2]; omega)) dL_law_952 ?_
  refine lv_topi (fun a2_1 ea2_1 => ?_)
  obtain rfl : a2_0 = a2_1 := ea2_0.trans ea2_1.symm
  refine lv_aload_n hx hb dL_law_953 rfl (lv_at hl 3 rfl) ?_
  refine lv_iload_n hx hb dL_law_954 rfl (lv_at hl 0 rfl) ?_
  refine lv_iconst (v := 3) hx hb dL_law_955 (by decide) ?_
  refine lv_iadd hx hb dL_law_956 ?_
  refine va_sld hx hb hX hbl hbA hS (vinT (by rw [hk3]; omega)) dL_law_957 ?_
  refine lv_topi (fun a3_1 ea3_1 => ?_)
  obtain rfl : a3_0 = a3_1 := ea3_0.trans ea3_1.symm
  refine lawVi (E := (eM l G k tM aX aV)) (b := g0) (As := [.int a1_0, .int a2_0, .int a3_0]) (rest := []) F hK hN hOm hTm (c_X7_firm (eM l G k tM aX aV) (xD 6600 W0) (xD 1320 V0) (xD 660 B1) (xB 400 T) (xZ 2 K0) (u, u) (((-2147483648), 2147483647)) (t, t) (((-2147483648), 2147483647)) (0, 4000) (((-2147483648), 2147483647)) (((-2147483648), 2147483647)) (0, 1) X0 A0 Z g0 a1_0 a2_0 a3_0 (List.mem_singleton.mpr hg0) hX0 hA0 hqX0) mv_X7_firm wd_47_17 ⟨Nat.le_of_ble_eq_true rfl, Nat.le_of_ble_eq_true rfl⟩ ⟨Nat.le_of_ble_eq_true rfl, Nat.le_of_ble_eq_true rfl⟩ hM hS (tRecv hK hM (by rw [show eT (eM l G k tM aX aV) g0 = 24 from hg0]; rfl) clX7) rfl hl.1 (Nat.le_of_ble_eq_true rfl) dL_law_958 (fun v1 H1 locs hq hk_ hS => ?_)
  obtain ⟨X2_1, hX2_1, A2_1, hA2_1, f1_0, hN_⟩ := hq
  have hC := keptC hdis hC hk_
  have hM : TH (eM l G k tM aX aV) (tbM (mD (.inl (t, t)) (.inl (-2147483648, 2147483647)) (.inl (-2147483648, 2147483647)) (.inl (u, u)) (.inl (0, 18)) (.inl (-2147483648, 2147483647)) (.inl (0, 4000)) (.inl (-2147483648, 2147483647)) (.inl (0, 1))) (xD 660 X2_1) (xD 6600 W0) (xD 1320 V0) (xD 660 A2_1) (xD 660 B1) m_second (xB 400 T) (xZ 2 K0)) H1 := hN_
  refine lv_pop hx hb dL_law_961 rfl ?_
  refine lv_goto (tgt := 1529) hx hb dL_law_962 (by decide) ?_
  have hG_ : ((kr = [26] ∧ ks = [27]) ∨ (kr = [27] ∧ ks = [26])) ∧ (0 ≤ kb ∧ kb ≤ 3) ∧ (0 ≤ x1 ∧ x1 ≤ 12) ∧ (0 ≤ y1 ∧ y1 ≤ 14) ∧ (0 ≤ x2 ∧ x2 ≤ 12) ∧ (0 ≤ y2 ∧ y2 ≤ 14) ∧ (0 ≤ x3 ∧ x3 ≤ 12) ∧ (0 ≤ y3 ∧ y3 ≤ 14) ∧ (0 ≤ x4 ∧ x4 ≤ 12) ∧ (0 ≤ y4 ∧ y4 ≤ 14) ∧ ivP 12 (-2) 11 Da1 ∧ ivP 12 (-2147483648) 2147483647 Sa1 ∧ ivP 48 (-2147483648) 2147483647 Qa1 ∧ ivP 12 (-2) 11 Da2 ∧ ivP 12 (-2147483648) 2147483647 Sa2 ∧ ivP 48 (-2147483648) 2147483647 Qa2 ∧ ivP 12 (-2) 11 Da3 ∧ ivP 12 (-2147483648) 2147483647 Sa3 ∧ ivP 48 (-2147483648) 2147483647 Qa3 ∧ ivP 12 (-2) 11 Da4 ∧ ivP 12 (-2147483648) 2147483647 Sa4 ∧ ivP 48 (-2147483648) 2147483647 Qa4 := ⟨hkk, (by omega), (by omega), (by omega), (by omega), (by omega), (by omega), (by omega), (by omega), (by omega), hDa1, hSa1, hQa1, hDa2, hSa2, hQa2, hDa3, hSa3, hQa3, hDa4, hSa4, hQa4⟩
  exact hend t T (kr, ks, kb, x1, y1, x2, y2, x3, y3, x4, y4, Da1, Sa1, Qa1, Da2, Sa2, Qa2, Da3, Sa3, Qa3, Da4, Sa4, Qa4) _ _ ⟨(by omega), hT8⟩ hG_ hC ⟨X2_1, W0, V0, A2_1, B1, K0, Z, Y0, Y1, u, (by omega), hX2_1.1, hW0, hV0, hA2_1, hK0, hX2_1.2, hmW0, hy0, hy1, hTie, hM⟩ hS
set_option maxHeartbeats 4000000 in
set_option maxRecDepth 100000 in
theorem law_c25 {pg_ : Program} {l : Launch} {ev_ : Env} {s : State} {mi_ : MethodId} {below_ : List Frame} {meth : Method} {cd_ : Code} {H : Heap} {locs : List Loc} {ls : Array Slot} {b L : Nat} {xs : Nat → Int32} {G : va_G} {k : Nat → ClassId} {tC tM aX aV : Nat → Nat} {h0 g0 : Nat} {i : Int32} {t : Int} {T : RwF} {g : Gs} (B0 : LB pg_ s mi_ meth cd_ b L xs l G k tC tM aX aV h0 g0) (hi : 0 ≤ i.toInt ∧ i.toInt + 6 ≤ L) (ht : (0 ≤ t ∧ t ≤ 400) ∧ ivP 400 (-128) 127 T) (hg : Gok g) (hC : Cs (eC l G k tC aX aV) t T g H) (hMs : Ms (eM l G k tM aX aV) t T g H) (hS : va_S (lawA s) s.heap H locs) (hl : lv_has ls 4 [(3, .int i), (2, .ref g0), (1, .ref h0), (0, .ref b)]) (hend : ∀ (t : Int) (T : RwF) (g : Gs) (H : Heap) (locs : List Loc), ((0 ≤ t ∧ t ≤ 400) ∧ ivP 400 (-128) 127 T) → Gok g → Cs (eC l G k tC aX aV) t T g H → Ms (eM l G k tM aX aV) t T g H → va_S (lawA s) s.heap H locs → W pg_ l ev_ room_1 s mi_ #[Value.ref b] below_ meth cd_ H locs 294 18964 (lw_Z below_ #[Value.ref b] s) (F0 mi_ 1529 ls [])) : W pg_ l ev_ room_1 s mi_ #[Value.ref b] below_ meth cd_ H locs 294 18964 (lw_Z below_ #[Value.ref b] s) (F0 mi_ 965 ls []) := by
  obtain ⟨F, hK, hN, hOc, hOm, hX, hbl, hL, hTc, hTm, hdis, hh0, hg0⟩ := id B0
  obtain ⟨hx, hb, hr, hml, hown, hlk, hw, -⟩ := id F
  have hbA : ¬ lawA s b := fun q => absurd q (by unfold lawA; omega)
  obtain ⟨kr, ks, kb, x1, y1, x2, y2, x3, y3, x4, y4, Da1, Sa1, Qa1, Da2, Sa2, Qa2, Da3, Sa3, Qa3, Da4, Sa4, Qa4⟩ := g
  obtain ⟨X0, W0, V0, A0, B1, K0, Z, Y0, Y1, u, hu, hX0, hW0, hV0, hA0, hK0, hqX0, hmW0, hy0, hy1, hTie0, hM⟩ := hMs
  obtain ⟨ht, hT8⟩ := ht
  have hg : ((kr = [26] ∧ ks = [27]) ∨ (kr = [27] ∧ ks = [26])) ∧ (0 ≤ kb ∧ kb ≤ 3) ∧ (0 ≤ x1 ∧ x1 ≤ 12) ∧ (0 ≤ y1 ∧ y1 ≤ 14) ∧ (0 ≤ x2 ∧ x2 ≤ 12) ∧ (0 ≤ y2 ∧ y2 ≤ 14) ∧ (0 ≤ x3 ∧ x3 ≤ 12) ∧ (0 ≤ y3 ∧ y3 ≤ 14) ∧ (0 ≤ x4 ∧ x4 ≤ 12) ∧ (0 ≤ y4 ∧ y4 ≤ 14) ∧ ivP 12 (-2) 11 Da1 ∧ ivP 12 (-2147483648) 2147483647 Sa1 ∧ ivP 48 (-2147483648) 2147483647 Qa1 ∧ ivP 12 (-2) 11 Da2 ∧ ivP 12 (-2147483648) 2147483647 Sa2 ∧ ivP 48 (-2147483648) 2147483647 Qa2 ∧ ivP 12 (-2) 11 Da3 ∧ ivP 12 (-2147483648) 2147483647 Sa3 ∧ ivP 48 (-2147483648) 2147483647 Qa3 ∧ ivP 12 (-2) 11 Da4 ∧ ivP 12 (-2147483648) 2147483647 Sa4 ∧ ivP 48 (-2147483648) 2147483647 Qa4 := hg
  obtain ⟨hkk, hkb, hx1, hy1_, hx2, hy2_, hx3, hy3_, hx4, hy4_, hDa1, hSa1, hQa1, hDa2, hSa2, hQa2, hDa3, hSa3, hQa3, hDa4, hSa4, hQa4⟩ := hg
  have hC : TH (eC l G k tC aX aV) (tbC (dayD (.inl (0, 18))) (dayD (.inl (0, 18))) (riverD (.inl (x1, x1)) (.inl (y1, y1)) (.inl (0, 4)) 31 33 35 39 43 47) (riverD (.inl (x2, x2)) (.inl (y2, y2)) (.inl (0, 4)) 32 34 36 40 44 48) (rcD (.inl (t, t)) (.inr kr) (.inr ks) (.inl (kb, kb))) (rdD (.inl (0, 400)) (.inl (0, 400)) (.inl (0, 4000)) (.inl (0, 1)) (.inr [26, 27])) (xB 400 T) A14F A14F A4F A4F A14F A14F (riverD (.inl (x3, x3)) (.inl (y3, y3)) (.inl (0, 4)) 3 8 3 41 45 49) (riverD (.inl (x4, x4)) (.inl (y4, y4)) (.inl (0, 4)) 3 8 3 42 46 50) (xD 12 Da1) (xD 12 Da2) (xD 12 Da3) (xD 12 Da4) (xD 12 Sa1) (xD 12 Sa2) (xD 12 Sa3) (xD 12 Sa4) (xD 48 Qa1) (xD 48 Qa2) (xD 48 Qa3) (xD 48 Qa4)) H := hC
  have hTie : (kr = [26] → rowT x1 Da1 Sa1 Qa1 Z) ∧ (kr = [27] → rowT x2 Da2 Sa2 Qa2 Z) ∧ gI K0 0 = kb % 2 ∧ gI K0 1 = kb / 2 ∧ (kb % 2 = 1 → rowT x3 Da3 Sa3 Qa3 Y0) ∧ (kb / 2 = 1 → rowT x4 Da4 Sa4 Qa4 Y1) := hTie0
  clear hTie0
  have hk1 : (i + 1).toInt = i.toInt + 1 := by
    have h1 := i_add (x := i) (y := 1) (by rw [show (1 : Int32).toInt = 1 by decide]; omega) (by rw [show (1 : Int32).toInt = 1 by decide]; omega)
    rw [show (1 : Int32).toInt = 1 by decide] at h1
    exact h1
  have hk2 : (i + 2).toInt = i.toInt + 2 := by
    have h1 := i_add (x := i) (y := 2) (by rw [show (2 : Int32).toInt = 2 by decide]; omega) (by rw [show (2 : Int32).toInt = 2 by decide]; omega)
    rw [show (2 : Int32).toInt = 2 by decide] at h1
    exact h1
  have hk3 : (i + 3).toInt = i.toInt + 3 := by
    have h1 := i_add (x := i) (y := 3) (by rw [show (3 : Int32).toInt = 3 by decide]; omega) (by rw [show (3 : Int32).toInt = 3 by decide]; omega)
    rw [show (3 : Int32).toInt = 3 by decide] at h1
    exact h1
  refine lv_aload_n hx hb dL_law_965 rfl (lv_at hl 2 rfl) ?_
  refine lv_aload_n hx hb dL_law_966 rfl (lv_at hl 3 rfl) ?_
  refine lv_iload_n hx hb dL_law_967 rfl (lv_at hl 0 rfl) ?_
  refine lv_iconst (v := 1) hx hb dL_law_968 (by decide) ?_
  refine lv_iadd hx hb dL_law_969 ?_
  refine va_sld hx hb hX hbl hbA hS (vinT (by rw [hk1]; omega)) dL_law_970 ?_
  refine lv_topi (fun a1_0 ea1_0 => ?_)
  refine lv_aload_n hx hb dL_law_971 rfl (lv_at hl 3 rfl) ?_
  refine lv_iload_n hx hb dL_law_972 rfl (lv_at hl 0 rfl) ?_
  refine lv_iconst (v := 2) hx hb dL_law_973 (by decide) ?_
  refine lv_iadd hx hb dL_law_974 ?_
  refine va_sld hx hb hX hbl hbA hS (vinT (by rw [hk2]; omega)) dL_law_975 ?_
  refine lv_topi (fun a2_0 ea2_0 => ?_)
  refine lv_aload_n hx hb dL_law_976 rfl (lv_at hl 3 rfl) ?_
  refine lv_iload_n hx hb dL_law_977 rfl (lv_at hl 0 rfl) ?_
  refine lv_iconst (v := 3) hx hb dL_law_978 (by decide) ?_
  refine lv_iadd hx hb dL_law_979 ?_
  refine va_sld hx hb hX hbl hbA hS (vinT (by rw [hk3]; omega)) dL_law_980 ?_
  refine lv_topi (fun a3_0 ea3_0 => ?_)
  have hkr : ∀ t ∈ kr, t ∈ [26, 27] := by rcases hkk with ⟨h9_, -⟩ | ⟨h9_, -⟩ <;> rw [h9_] <;> decide
  have hks : ∀ t ∈ ks, t ∈ [26, 27] := by rcases hkk with ⟨-, h9_⟩ | ⟨-, h9_⟩ <;> rw [h9_] <;> decide
  refine lawVi (E := (eC l G k tC aX aV)) (b := h0) (As := [.int a1_0, .int a2_0, .int a3_0]) (rest := []) F hK hN hOc hTc (c_X6_without (eC l G k tC aX aV) (rdD (.inl (0, 400)) (.inl (0, 400)) (.inl (0, 4000)) (.inl (0, 1)) (.inr [26, 27])) (xB 400 T) (kb, kb) (x1, x1) (y1, y1) (x2, x2) (y2, y2) (x3, x3) (y3, y3) (x4, x4) (y4, y4) kr ks (fun f_ => f_ = Da1) (fun f_ => f_ = Da2) (fun f_ => f_ = Da3) (fun f_ => f_ = Da4) (fun f_ => f_ = Sa1) (fun f_ => f_ = Sa2) (fun f_ => f_ = Sa3) (fun f_ => f_ = Sa4) (fun f_ => f_ = Qa1) (fun f_ => f_ = Qa2) (fun f_ => f_ = Qa3) (fun f_ => f_ = Qa4) t h0 a1_0 a2_0 a3_0 (List.mem_singleton.mpr hh0) (by omega) (by show 0 ≤ x1 ∧ x1 ≤ 12; omega) (by show 0 ≤ y1 ∧ y1 ≤ 14; omega) (by show 0 ≤ x2 ∧ x2 ≤ 12; omega) (by show 0 ≤ y2 ∧ y2 ≤ 14; omega) (by show 0 ≤ x3 ∧ x3 ≤ 12; omega) (by show 0 ≤ y3 ∧ y3 ≤ 14; omega) (by show 0 ≤ x4 ∧ x4 ≤ 12; omega) (by show 0 ≤ y4 ∧ y4 ≤ 14; omega) hkr hks (fun f_ h_ => ivX hDa1 h_) (fun f_ h_ => ivX hDa2 h_) (fun f_ h_ => ivX hDa3 h_) (fun f_ h_ => ivX hDa4 h_) (fun f_ h_ => ivX hSa1 h_) (fun f_ h_ => ivX hSa2 h_) (fun f_ h_ => ivX hSa3 h_) (fun f_ h_ => ivX hSa4 h_) (fun f_ h_ => ivX hQa1 h_) (fun f_ h_ => ivX hQa2 h_) (fun f_ h_ => ivX hQa3 h_) (fun f_ h_ => ivX hQa4 h_)) mv_X6_without wd_47_23 ⟨Nat.le_of_ble_eq_true rfl, Nat.le_of_ble_eq_true rfl⟩ ⟨Nat.le_of_ble_eq_true rfl, Nat.le_of_ble_eq_true rfl⟩ hC hS (tRecv hK hC (by rw [show eT (eC l G k tC aX aV) h0 = 28 from hh0]; rfl) clX6) rfl hl.1 (Nat.le_of_ble_eq_true rfl) dL_law_981 (fun v0 H1 locs hq hk_ hS => ?_)
  obtain ⟨f0_0, hN_⟩ := hq
  have hM := keptM hdis hM hk_
  have hC : TH (eC l G k tC aX aV) (tbC (dayD (.inl (0, 18))) (dayD (.inl (0, 18))) (riverD (.inl (x1, x1)) (.inl (y1, y1)) (.inl (0, 4)) 31 33 35 39 43 47) (riverD (.inl (x2, x2)) (.inl (y2, y2)) (.inl (0, 4)) 32 34 36 40 44 48) (rcD (.inl (t, t)) (.inr kr) (.inr ks) (.inl (kb, kb))) (rdD (.inl (0, 400)) (.inl (0, 400)) (.inl (0, 4000)) (.inl (0, 1)) (.inr [26, 27])) (xB 400 T) A14F A14F A4F A4F A14F A14F (riverD (.inl (x3, x3)) (.inl (y3, y3)) (.inl (0, 4)) 3 8 3 41 45 49) (riverD (.inl (x4, x4)) (.inl (y4, y4)) (.inl (0, 4)) 3 8 3 42 46 50) (xD 12 Da1) (xD 12 Da2) (xD 12 Da3) (xD 12 Da4) (xD 12 Sa1) (xD 12 Sa2) (xD 12 Sa3) (xD 12 Sa4) (xD 48 Qa1) (xD 48 Qa2) (xD 48 Qa3) (xD 48 Qa4)) H1 := hN_
  refine lv_pop hx hb dL_law_984 rfl ?_
  refine lv_aload_n hx hb dL_law_985 rfl (lv_at hl 1 rfl) ?_
  refine lv_aload_n hx hb dL_law_986 rfl (lv_at hl 3 rfl) ?_
  refine lv_iload_n hx hb dL_law_987 rfl (lv_at hl 0 rfl) ?_
  refine lv_iconst (v := 1) hx hb dL_law_988 (by decide) ?_
  refine lv_iadd hx hb dL_law_989 ?_
  refine va_sld hx hb hX hbl hbA hS (vinT (by rw [hk1]; omega)) dL_law_990 ?_
  refine lv_topi (fun a1_1 ea1_1 => ?_)
  obtain rfl : a1_0 = a1_1 := ea1_0.trans ea1_1.symm
  refine lv_aload_n hx hb dL_law_991 rfl (lv_at hl 3 rfl) ?_
  refine lv_iload_n hx hb dL_law_992 rfl (lv_at hl 0 rfl) ?_
  refine lv_iconst (v := 2) hx hb dL_law_993 (by decide) ?_
  refine lv_iadd hx hb dL_law_994 ?_
  refine va_sld hx hb hX hbl hbA hS (vinT (by rw [hk2]; omega)) dL_law_995 ?_
  refine lv_topi (fun a2_1 ea2_1 => ?_)
  obtain rfl : a2_0 = a2_1 := ea2_0.trans ea2_1.symm
  refine lv_aload_n hx hb dL_law_996 rfl (lv_at hl 3 rfl) ?_
  refine lv_iload_n hx hb dL_law_997 rfl (lv_at hl 0 rfl) ?_
  refine lv_iconst (v := 3) hx hb dL_law_998 (by decide) ?_
  refine lv_iadd hx hb dL_law_999 ?_
  refine va_sld hx hb hX hbl hbA hS (vinT (by rw [hk3]; omega)) dL_law_1000 ?_
  refine lv_topi (fun a3_1 ea3_1 => ?_)
  obtain rfl : a3_0 = a3_1 := ea3_0.trans ea3_1.symm
  refine lawVi (E := (eM l G k tM aX aV)) (b := g0) (As := [.int a1_0, .int a2_0, .int a3_0]) (rest := []) F hK hN hOm hTm (c_X7_without (eM l G k tM aX aV) (xD 6600 W0) (xD 1320 V0) (xD 660 B1) (xB 400 T) (xZ 2 K0) (u, u) (((-2147483648), 2147483647)) (t, t) (((-2147483648), 2147483647)) (0, 4000) (((-2147483648), 2147483647)) (((-2147483648), 2147483647)) (0, 1) X0 A0 Z g0 a1_0 a2_0 a3_0 (List.mem_singleton.mpr hg0) hX0 hA0 hqX0) mv_X7_without wd_48_4 ⟨Nat.le_of_ble_eq_true rfl, Nat.le_of_ble_eq_true rfl⟩ ⟨Nat.le_of_ble_eq_true rfl, Nat.le_of_ble_eq_true rfl⟩ hM hS (tRecv hK hM (by rw [show eT (eM l G k tM aX aV) g0 = 24 from hg0]; rfl) clX7) rfl hl.1 (Nat.le_of_ble_eq_true rfl) dL_law_1001 (fun v1 H1 locs hq hk_ hS => ?_)
  obtain ⟨X2_1, hX2_1, A2_1, hA2_1, f1_0, hN_⟩ := hq
  have hC := keptC hdis hC hk_
  have hM : TH (eM l G k tM aX aV) (tbM (mD (.inl (t, t)) (.inl (-2147483648, 2147483647)) (.inl (-2147483648, 2147483647)) (.inl (u, u)) (.inl (0, 18)) (.inl (-2147483648, 2147483647)) (.inl (0, 4000)) (.inl (-2147483648, 2147483647)) (.inl (0, 1))) (xD 660 X2_1) (xD 6600 W0) (xD 1320 V0) (xD 660 A2_1) (xD 660 B1) m_second (xB 400 T) (xZ 2 K0)) H1 := hN_
  refine lv_pop hx hb dL_law_1004 rfl ?_
  refine lv_goto (tgt := 1529) hx hb dL_law_1005 (by decide) ?_
  have hG_ : ((kr = [26] ∧ ks = [27]) ∨ (kr = [27] ∧ ks = [26])) ∧ (0 ≤ kb ∧ kb ≤ 3) ∧ (0 ≤ x1 ∧ x1 ≤ 12) ∧ (0 ≤ y1 ∧ y1 ≤ 14) ∧ (0 ≤ x2 ∧ x2 ≤ 12) ∧ (0 ≤ y2 ∧ y2 ≤ 14) ∧ (0 ≤ x3 ∧ x3 ≤ 12) ∧ (0 ≤ y3 ∧ y3 ≤ 14) ∧ (0 ≤ x4 ∧ x4 ≤ 12) ∧ (0 ≤ y4 ∧ y4 ≤ 14) ∧ ivP 12 (-2) 11 Da1 ∧ ivP 12 (-2147483648) 2147483647 Sa1 ∧ ivP 48 (-2147483648) 2147483647 Qa1 ∧ ivP 12 (-2) 11 Da2 ∧ ivP 12 (-2147483648) 2147483647 Sa2 ∧ ivP 48 (-2147483648) 2147483647 Qa2 ∧ ivP 12 (-2) 11 Da3 ∧ ivP 12 (-2147483648) 2147483647 Sa3 ∧ ivP 48 (-2147483648) 2147483647 Qa3 ∧ ivP 12 (-2) 11 Da4 ∧ ivP 12 (-2147483648) 2147483647 Sa4 ∧ ivP 48 (-2147483648) 2147483647 Qa4 := ⟨hkk, (by omega), (by omega), (by omega), (by omega), (by omega), (by omega), (by omega), (by omega), (by omega), hDa1, hSa1, hQa1, hDa2, hSa2, hQa2, hDa3, hSa3, hQa3, hDa4, hSa4, hQa4⟩
  exact hend t T (kr, ks, kb, x1, y1, x2, y2, x3, y3, x4, y4, Da1, Sa1, Qa1, Da2, Sa2, Qa2, Da3, Sa3, Qa3, Da4, Sa4, Qa4) _ _ ⟨(by omega), hT8⟩ hG_ hC ⟨X2_1, W0, V0, A2_1, B1, K0, Z, Y0, Y1, u, (by omega), hX2_1.1, hW0, hV0, hA2_1, hK0, hX2_1.2, hmW0, hy0, hy1, hTie, hM⟩ hS
set_option maxHeartbeats 4000000 in
set_option maxRecDepth 100000 in
theorem law_c26 {pg_ : Program} {l : Launch} {ev_ : Env} {s : State} {mi_ : MethodId} {below_ : List Frame} {meth : Method} {cd_ : Code} {H : Heap} {locs : List Loc} {ls : Array Slot} {b L : Nat} {xs : Nat → Int32} {G : va_G} {k : Nat → ClassId} {tC tM aX aV : Nat → Nat} {h0 g0 : Nat} {i : Int32} {t : Int} {T : RwF} {g : Gs} (B0 : LB pg_ s mi_ meth cd_ b L xs l G k tC tM aX aV h0 g0) (hi : 0 ≤ i.toInt ∧ i.toInt + 6 ≤ L) (ht : (0 ≤ t ∧ t ≤ 400) ∧ ivP 400 (-128) 127 T) (hg : Gok g) (hC : Cs (eC l G k tC aX aV) t T g H) (hMs : Ms (eM l G k tM aX aV) t T g H) (hS : va_S (lawA s) s.heap H locs) (hl : lv_has ls 4 [(3, .int i), (2, .ref g0), (1, .ref h0), (0, .ref b)]) (hend : ∀ (t : Int) (T : RwF) (g : Gs) (H : Heap) (locs : List Loc), ((0 ≤ t ∧ t ≤ 400) ∧ ivP 400 (-128) 127 T) → Gok g → Cs (eC l G k tC aX aV) t T g H → Ms (eM l G k tM aX aV) t T g H → va_S (lawA s) s.heap H locs → W pg_ l ev_ room_1 s mi_ #[Value.ref b] below_ meth cd_ H locs 294 18964 (lw_Z below_ #[Value.ref b] s) (F0 mi_ 1529 ls [])) : W pg_ l ev_ room_1 s mi_ #[Value.ref b] below_ meth cd_ H locs 294 18964 (lw_Z below_ #[Value.ref b] s) (F0 mi_ 1008 ls []) := by
  obtain ⟨F, hK, hN, hOc, hOm, hX, hbl, hL, hTc, hTm, hdis, hh0, hg0⟩ := id B0
  obtain ⟨hx, hb, hr, hml, hown, hlk, hw, -⟩ := id F
  have hbA : ¬ lawA s b := fun q => absurd q (by unfold lawA; omega)
  obtain ⟨kr, ks, kb, x1, y1, x2, y2, x3, y3, x4, y4, Da1, Sa1, Qa1, Da2, Sa2, Qa2, Da3, Sa3, Qa3, Da4, Sa4, Qa4⟩ := g
  obtain ⟨X0, W0, V0, A0, B1, K0, Z, Y0, Y1, u, hu, hX0, hW0, hV0, hA0, hK0, hqX0, hmW0, hy0, hy1, hTie0, hM⟩ := hMs
  obtain ⟨ht, hT8⟩ := ht
  have hg : ((kr = [26] ∧ ks = [27]) ∨ (kr = [27] ∧ ks = [26])) ∧ (0 ≤ kb ∧ kb ≤ 3) ∧ (0 ≤ x1 ∧ x1 ≤ 12) ∧ (0 ≤ y1 ∧ y1 ≤ 14) ∧ (0 ≤ x2 ∧ x2 ≤ 12) ∧ (0 ≤ y2 ∧ y2 ≤ 14) ∧ (0 ≤ x3 ∧ x3 ≤ 12) ∧ (0 ≤ y3 ∧ y3 ≤ 14) ∧ (0 ≤ x4 ∧ x4 ≤ 12) ∧ (0 ≤ y4 ∧ y4 ≤ 14) ∧ ivP 12 (-2) 11 Da1 ∧ ivP 12 (-2147483648) 2147483647 Sa1 ∧ ivP 48 (-2147483648) 2147483647 Qa1 ∧ ivP 12 (-2) 11 Da2 ∧ ivP 12 (-2147483648) 2147483647 Sa2 ∧ ivP 48 (-2147483648) 2147483647 Qa2 ∧ ivP 12 (-2) 11 Da3 ∧ ivP 12 (-2147483648) 2147483647 Sa3 ∧ ivP 48 (-2147483648) 2147483647 Qa3 ∧ ivP 12 (-2) 11 Da4 ∧ ivP 12 (-2147483648) 2147483647 Sa4 ∧ ivP 48 (-2147483648) 2147483647 Qa4 := hg
  obtain ⟨hkk, hkb, hx1, hy1_, hx2, hy2_, hx3, hy3_, hx4, hy4_, hDa1, hSa1, hQa1, hDa2, hSa2, hQa2, hDa3, hSa3, hQa3, hDa4, hSa4, hQa4⟩ := hg
  have hC : TH (eC l G k tC aX aV) (tbC (dayD (.inl (0, 18))) (dayD (.inl (0, 18))) (riverD (.inl (x1, x1)) (.inl (y1, y1)) (.inl (0, 4)) 31 33 35 39 43 47) (riverD (.inl (x2, x2)) (.inl (y2, y2)) (.inl (0, 4)) 32 34 36 40 44 48) (rcD (.inl (t, t)) (.inr kr) (.inr ks) (.inl (kb, kb))) (rdD (.inl (0, 400)) (.inl (0, 400)) (.inl (0, 4000)) (.inl (0, 1)) (.inr [26, 27])) (xB 400 T) A14F A14F A4F A4F A14F A14F (riverD (.inl (x3, x3)) (.inl (y3, y3)) (.inl (0, 4)) 3 8 3 41 45 49) (riverD (.inl (x4, x4)) (.inl (y4, y4)) (.inl (0, 4)) 3 8 3 42 46 50) (xD 12 Da1) (xD 12 Da2) (xD 12 Da3) (xD 12 Da4) (xD 12 Sa1) (xD 12 Sa2) (xD 12 Sa3) (xD 12 Sa4) (xD 48 Qa1) (xD 48 Qa2) (xD 48 Qa3) (xD 48 Qa4)) H := hC
  have hTie : (kr = [26] → rowT x1 Da1 Sa1 Qa1 Z) ∧ (kr = [27] → rowT x2 Da2 Sa2 Qa2 Z) ∧ gI K0 0 = kb % 2 ∧ gI K0 1 = kb / 2 ∧ (kb % 2 = 1 → rowT x3 Da3 Sa3 Qa3 Y0) ∧ (kb / 2 = 1 → rowT x4 Da4 Sa4 Qa4 Y1) := hTie0
  clear hTie0
  have hk1 : (i + 1).toInt = i.toInt + 1 := by
    have h1 := i_add (x := i) (y := 1) (by rw [show (1 : Int32).toInt = 1 by decide]; omega) (by rw [show (1 : Int32).toInt = 1 by decide]; omega)
    rw [show (1 : Int32).toInt = 1 by decide] at h1
    exact h1
  have hk2 : (i + 2).toInt = i.toInt + 2 := by
    have h1 := i_add (x := i) (y := 2) (by rw [show (2 : Int32).toInt = 2 by decide]; omega) (by rw [show (2 : Int32).toInt = 2 by decide]; omega)
    rw [show (2 : Int32).toInt = 2 by decide] at h1
    exact h1
  have hk3 : (i + 3).toInt = i.toInt + 3 := by
    have h1 := i_add (x := i) (y := 3) (by rw [show (3 : Int32).toInt = 3 by decide]; omega) (by rw [show (3 : Int32).toInt = 3 by decide]; omega)
    rw [show (3 : Int32).toInt = 3 by decide] at h1
    exact h1
  refine lv_aload_n hx hb dL_law_1008 rfl (lv_at hl 2 rfl) ?_
  refine lv_aload_n hx hb dL_law_1009 rfl (lv_at hl 3 rfl) ?_
  refine lv_iload_n hx hb dL_law_1010 rfl (lv_at hl 0 rfl) ?_
  refine lv_iconst (v := 1) hx hb dL_law_1011 (by decide) ?_
  refine lv_iadd hx hb dL_law_1012 ?_
  refine va_sld hx hb hX hbl hbA hS (vinT (by rw [hk1]; omega)) dL_law_1013 ?_
  refine lv_topi (fun a1_0 ea1_0 => ?_)
  refine lv_aload_n hx hb dL_law_1014 rfl (lv_at hl 3 rfl) ?_
  refine lv_iload_n hx hb dL_law_1015 rfl (lv_at hl 0 rfl) ?_
  refine lv_iconst (v := 2) hx hb dL_law_1016 (by decide) ?_
  refine lv_iadd hx hb dL_law_1017 ?_
  refine va_sld hx hb hX hbl hbA hS (vinT (by rw [hk2]; omega)) dL_law_1018 ?_
  refine lv_topi (fun a2_0 ea2_0 => ?_)
  refine lv_aload_n hx hb dL_law_1019 rfl (lv_at hl 3 rfl) ?_
  refine lv_iload_n hx hb dL_law_1020 rfl (lv_at hl 0 rfl) ?_
  refine lv_iconst (v := 3) hx hb dL_law_1021 (by decide) ?_
  refine lv_iadd hx hb dL_law_1022 ?_
  refine va_sld hx hb hX hbl hbA hS (vinT (by rw [hk3]; omega)) dL_law_1023 ?_
  refine lv_topi (fun a3_0 ea3_0 => ?_)
  have hkr : ∀ t ∈ kr, t ∈ [26, 27] := by rcases hkk with ⟨h9_, -⟩ | ⟨h9_, -⟩ <;> rw [h9_] <;> decide
  have hks : ∀ t ∈ ks, t ∈ [26, 27] := by rcases hkk with ⟨-, h9_⟩ | ⟨-, h9_⟩ <;> rw [h9_] <;> decide
  refine lawVi (E := (eC l G k tC aX aV)) (b := h0) (As := [.int a1_0, .int a2_0, .int a3_0]) (rest := []) F hK hN hOc hTc (c_X6_hurt (eC l G k tC aX aV) (rdD (.inl (0, 400)) (.inl (0, 400)) (.inl (0, 4000)) (.inl (0, 1)) (.inr [26, 27])) (xB 400 T) (kb, kb) (x1, x1) (y1, y1) (x2, x2) (y2, y2) (x3, x3) (y3, y3) (x4, x4) (y4, y4) kr ks (fun f_ => f_ = Da1) (fun f_ => f_ = Da2) (fun f_ => f_ = Da3) (fun f_ => f_ = Da4) (fun f_ => f_ = Sa1) (fun f_ => f_ = Sa2) (fun f_ => f_ = Sa3) (fun f_ => f_ = Sa4) (fun f_ => f_ = Qa1) (fun f_ => f_ = Qa2) (fun f_ => f_ = Qa3) (fun f_ => f_ = Qa4) t h0 a1_0 a2_0 a3_0 (List.mem_singleton.mpr hh0) (by omega) (by show 0 ≤ x1 ∧ x1 ≤ 12; omega) (by show 0 ≤ y1 ∧ y1 ≤ 14; omega) (by show 0 ≤ x2 ∧ x2 ≤ 12; omega) (by show 0 ≤ y2 ∧ y2 ≤ 14; omega) (by show 0 ≤ x3 ∧ x3 ≤ 12; omega) (by show 0 ≤ y3 ∧ y3 ≤ 14; omega) (by show 0 ≤ x4 ∧ x4 ≤ 12; omega) (by show 0 ≤ y4 ∧ y4 ≤ 14; omega) hkr hks (fun f_ h_ => ivX hDa1 h_) (fun f_ h_ => ivX hDa2 h_) (fun f_ h_ => ivX hDa3 h_) (fun f_ h_ => ivX hDa4 h_) (fun f_ h_ => ivX hSa1 h_) (fun f_ h_ => ivX hSa2 h_) (fun f_ h_ => ivX hSa3 h_) (fun f_ h_ => ivX hSa4 h_) (fun f_ h_ => ivX hQa1 h_) (fun f_ h_ => ivX hQa2 h_) (fun f_ h_ => ivX hQa3 h_) (fun f_ h_ => ivX hQa4 h_)) mv_X6_hurt wd_48_9 ⟨Nat.le_of_ble_eq_true rfl, Nat.le_of_ble_eq_true rfl⟩ ⟨Nat.le_of_ble_eq_true rfl, Nat.le_of_ble_eq_true rfl⟩ hC hS (tRecv hK hC (by rw [show eT (eC l G k tC aX aV) h0 = 28 from hh0]; rfl) clX6) rfl hl.1 (Nat.le_of_ble_eq_true rfl) dL_law_1024 (fun v0 H1 locs hq hk_ hS => ?_)
  obtain ⟨f0_0, hN_⟩ := hq
  have hM := keptM hdis hM hk_
  have hC : TH (eC l G k tC aX aV) (tbC (dayD (.inl (0, 18))) (dayD (.inl (0, 18))) (riverD (.inl (x1, x1)) (.inl (y1, y1)) (.inl (0, 4)) 31 33 35 39 43 47) (riverD (.inl (x2, x2)) (.inl (y2, y2)) (.inl (0, 4)) 32 34 36 40 44 48) (rcD (.inl (t, t)) (.inr kr) (.inr ks) (.inl (kb, kb))) (rdD (.inl (0, 400)) (.inl (0, 400)) (.inl (0, 4000)) (.inl (0, 1)) (.inr [26, 27])) (xB 400 T) A14F A14F A4F A4F A14F A14F (riverD (.inl (x3, x3)) (.inl (y3, y3)) (.inl (0, 4)) 3 8 3 41 45 49) (riverD (.inl (x4, x4)) (.inl (y4, y4)) (.inl (0, 4)) 3 8 3 42 46 50) (xD 12 Da1) (xD 12 Da2) (xD 12 Da3) (xD 12 Da4) (xD 12 Sa1) (xD 12 Sa2) (xD 12 Sa3) (xD 12 Sa4) (xD 48 Qa1) (xD 48 Qa2) (xD 48 Qa3) (xD 48 Qa4)) H1 := hN_
  refine lv_pop hx hb dL_law_1027 rfl ?_
  refine lv_aload_n hx hb dL_law_1028 rfl (lv_at hl 1 rfl) ?_
  refine lv_aload_n hx hb dL_law_1029 rfl (lv_at hl 3 rfl) ?_
  refine lv_iload_n hx hb dL_law_1030 rfl (lv_at hl 0 rfl) ?_
  refine lv_iconst (v := 1) hx hb dL_law_1031 (by decide) ?_
  refine lv_iadd hx hb dL_law_1032 ?_
  refine va_sld hx hb hX hbl hbA hS (vinT (by rw [hk1]; omega)) dL_law_1033 ?_
  refine lv_topi (fun a1_1 ea1_1 => ?_)
  obtain rfl : a1_0 = a1_1 := ea1_0.trans ea1_1.symm
  refine lv_aload_n hx hb dL_law_1034 rfl (lv_at hl 3 rfl) ?_
  refine lv_iload_n hx hb dL_law_1035 rfl (lv_at hl 0 rfl) ?_
  refine lv_iconst (v := 2) hx hb dL_law_1036 (by decide) ?_
  refine lv_iadd hx hb dL_law_1037 ?_
  refine va_sld hx hb hX hbl hbA hS (vinT (by rw [hk2]; omega)) dL_law_1038 ?_
  refine lv_topi (fun a2_1 ea2_1 => ?_)
  obtain rfl : a2_0 = a2_1 := ea2_0.trans ea2_1.symm
  refine lv_aload_n hx hb dL_law_1039 rfl (lv_at hl 3 rfl) ?_
  refine lv_iload_n hx hb dL_law_1040 rfl (lv_at hl 0 rfl) ?_
  refine lv_iconst (v := 3) hx hb dL_law_1041 (by decide) ?_
  refine lv_iadd hx hb dL_law_1042 ?_
  refine va_sld hx hb hX hbl hbA hS (vinT (by rw [hk3]; omega)) dL_law_1043 ?_
  refine lv_topi (fun a3_1 ea3_1 => ?_)
  obtain rfl : a3_0 = a3_1 := ea3_0.trans ea3_1.symm
  refine lawVi (E := (eM l G k tM aX aV)) (b := g0) (As := [.int a1_0, .int a2_0, .int a3_0]) (rest := []) F hK hN hOm hTm (c_X7_hurt (eM l G k tM aX aV) (xD 6600 W0) (xD 1320 V0) (xD 660 B1) (xB 400 T) (xZ 2 K0) (u, u) (((-2147483648), 2147483647)) (t, t) (((-2147483648), 2147483647)) (0, 4000) (((-2147483648), 2147483647)) (((-2147483648), 2147483647)) (0, 1) X0 A0 Z g0 a1_0 a2_0 a3_0 (List.mem_singleton.mpr hg0) hX0 hA0 hqX0) mv_X7_hurt wd_48_14 ⟨Nat.le_of_ble_eq_true rfl, Nat.le_of_ble_eq_true rfl⟩ ⟨Nat.le_of_ble_eq_true rfl, Nat.le_of_ble_eq_true rfl⟩ hM hS (tRecv hK hM (by rw [show eT (eM l G k tM aX aV) g0 = 24 from hg0]; rfl) clX7) rfl hl.1 (Nat.le_of_ble_eq_true rfl) dL_law_1044 (fun v1 H1 locs hq hk_ hS => ?_)
  obtain ⟨X2_1, hX2_1, A2_1, hA2_1, f1_0, hN_⟩ := hq
  have hC := keptC hdis hC hk_
  have hM : TH (eM l G k tM aX aV) (tbM (mD (.inl (t, t)) (.inl (-2147483648, 2147483647)) (.inl (-2147483648, 2147483647)) (.inl (u, u)) (.inl (0, 18)) (.inl (-2147483648, 2147483647)) (.inl (0, 4000)) (.inl (-2147483648, 2147483647)) (.inl (0, 1))) (xD 660 X2_1) (xD 6600 W0) (xD 1320 V0) (xD 660 A2_1) (xD 660 B1) m_second (xB 400 T) (xZ 2 K0)) H1 := hN_
  refine lv_pop hx hb dL_law_1047 rfl ?_
  refine lv_goto (tgt := 1529) hx hb dL_law_1048 (by decide) ?_
  have hG_ : ((kr = [26] ∧ ks = [27]) ∨ (kr = [27] ∧ ks = [26])) ∧ (0 ≤ kb ∧ kb ≤ 3) ∧ (0 ≤ x1 ∧ x1 ≤ 12) ∧ (0 ≤ y1 ∧ y1 ≤ 14) ∧ (0 ≤ x2 ∧ x2 ≤ 12) ∧ (0 ≤ y2 ∧ y2 ≤ 14) ∧ (0 ≤ x3 ∧ x3 ≤ 12) ∧ (0 ≤ y3 ∧ y3 ≤ 14) ∧ (0 ≤ x4 ∧ x4 ≤ 12) ∧ (0 ≤ y4 ∧ y4 ≤ 14) ∧ ivP 12 (-2) 11 Da1 ∧ ivP 12 (-2147483648) 2147483647 Sa1 ∧ ivP 48 (-2147483648) 2147483647 Qa1 ∧ ivP 12 (-2) 11 Da2 ∧ ivP 12 (-2147483648) 2147483647 Sa2 ∧ ivP 48 (-2147483648) 2147483647 Qa2 ∧ ivP 12 (-2) 11 Da3 ∧ ivP 12 (-2147483648) 2147483647 Sa3 ∧ ivP 48 (-2147483648) 2147483647 Qa3 ∧ ivP 12 (-2) 11 Da4 ∧ ivP 12 (-2147483648) 2147483647 Sa4 ∧ ivP 48 (-2147483648) 2147483647 Qa4 := ⟨hkk, (by omega), (by omega), (by omega), (by omega), (by omega), (by omega), (by omega), (by omega), (by omega), hDa1, hSa1, hQa1, hDa2, hSa2, hQa2, hDa3, hSa3, hQa3, hDa4, hSa4, hQa4⟩
  exact hend t T (kr, ks, kb, x1, y1, x2, y2, x3, y3, x4, y4, Da1, Sa1, Qa1, Da2, Sa2, Qa2, Da3, Sa3, Qa3, Da4, Sa4, Qa4) _ _ ⟨(by omega), hT8⟩ hG_ hC ⟨X2_1, W0, V0, A2_1, B1, K0, Z, Y0, Y1, u, (by omega), hX2_1.1, hW0, hV0, hA2_1, hK0, hX2_1.2, hmW0, hy0, hy1, hTie, hM⟩ hS
set_option maxHeartbeats 4000000 in
set_option maxRecDepth 100000 in
theorem law_c27 {pg_ : Program} {l : Launch} {ev_ : Env} {s : State} {mi_ : MethodId} {below_ : List Frame} {meth : Method} {cd_ : Code} {H : Heap} {locs : List Loc} {ls : Array Slot} {b L : Nat} {xs : Nat → Int32} {G : va_G} {k : Nat → ClassId} {tC tM aX aV : Nat → Nat} {h0 g0 : Nat} {i : Int32} {t : Int} {T : RwF} {g : Gs} (B0 : LB pg_ s mi_ meth cd_ b L xs l G k tC tM aX aV h0 g0) (hi : 0 ≤ i.toInt ∧ i.toInt + 6 ≤ L) (ht : (0 ≤ t ∧ t ≤ 400) ∧ ivP 400 (-128) 127 T) (hg : Gok g) (hC : Cs (eC l G k tC aX aV) t T g H) (hMs : Ms (eM l G k tM aX aV) t T g H) (hS : va_S (lawA s) s.heap H locs) (hl : lv_has ls 4 [(3, .int i), (2, .ref g0), (1, .ref h0), (0, .ref b)]) (hend : ∀ (t : Int) (T : RwF) (g : Gs) (H : Heap) (locs : List Loc), ((0 ≤ t ∧ t ≤ 400) ∧ ivP 400 (-128) 127 T) → Gok g → Cs (eC l G k tC aX aV) t T g H → Ms (eM l G k tM aX aV) t T g H → va_S (lawA s) s.heap H locs → W pg_ l ev_ room_1 s mi_ #[Value.ref b] below_ meth cd_ H locs 294 18964 (lw_Z below_ #[Value.ref b] s) (F0 mi_ 1529 ls [])) : W pg_ l ev_ room_1 s mi_ #[Value.ref b] below_ meth cd_ H locs 294 18964 (lw_Z below_ #[Value.ref b] s) (F0 mi_ 1051 ls []) := by
  obtain ⟨F, hK, hN, hOc, hOm, hX, hbl, hL, hTc, hTm, hdis, hh0, hg0⟩ := id B0
  obtain ⟨hx, hb, hr, hml, hown, hlk, hw, -⟩ := id F
  have hbA : ¬ lawA s b := fun q => absurd q (by unfold lawA; omega)
  obtain ⟨kr, ks, kb, x1, y1, x2, y2, x3, y3, x4, y4, Da1, Sa1, Qa1, Da2, Sa2, Qa2, Da3, Sa3, Qa3, Da4, Sa4, Qa4⟩ := g
  obtain ⟨X0, W0, V0, A0, B1, K0, Z, Y0, Y1, u, hu, hX0, hW0, hV0, hA0, hK0, hqX0, hmW0, hy0, hy1, hTie0, hM⟩ := hMs
  obtain ⟨ht, hT8⟩ := ht
  have hg : ((kr = [26] ∧ ks = [27]) ∨ (kr = [27] ∧ ks = [26])) ∧ (0 ≤ kb ∧ kb ≤ 3) ∧ (0 ≤ x1 ∧ x1 ≤ 12) ∧ (0 ≤ y1 ∧ y1 ≤ 14) ∧ (0 ≤ x2 ∧ x2 ≤ 12) ∧ (0 ≤ y2 ∧ y2 ≤ 14) ∧ (0 ≤ x3 ∧ x3 ≤ 12) ∧ (0 ≤ y3 ∧ y3 ≤ 14) ∧ (0 ≤ x4 ∧ x4 ≤ 12) ∧ (0 ≤ y4 ∧ y4 ≤ 14) ∧ ivP 12 (-2) 11 Da1 ∧ ivP 12 (-2147483648) 2147483647 Sa1 ∧ ivP 48 (-2147483648) 2147483647 Qa1 ∧ ivP 12 (-2) 11 Da2 ∧ ivP 12 (-2147483648) 2147483647 Sa2 ∧ ivP 48 (-2147483648) 2147483647 Qa2 ∧ ivP 12 (-2) 11 Da3 ∧ ivP 12 (-2147483648) 2147483647 Sa3 ∧ ivP 48 (-2147483648) 2147483647 Qa3 ∧ ivP 12 (-2) 11 Da4 ∧ ivP 12 (-2147483648) 2147483647 Sa4 ∧ ivP 48 (-2147483648) 2147483647 Qa4 := hg
  obtain ⟨hkk, hkb, hx1, hy1_, hx2, hy2_, hx3, hy3_, hx4, hy4_, hDa1, hSa1, hQa1, hDa2, hSa2, hQa2, hDa3, hSa3, hQa3, hDa4, hSa4, hQa4⟩ := hg
  have hC : TH (eC l G k tC aX aV) (tbC (dayD (.inl (0, 18))) (dayD (.inl (0, 18))) (riverD (.inl (x1, x1)) (.inl (y1, y1)) (.inl (0, 4)) 31 33 35 39 43 47) (riverD (.inl (x2, x2)) (.inl (y2, y2)) (.inl (0, 4)) 32 34 36 40 44 48) (rcD (.inl (t, t)) (.inr kr) (.inr ks) (.inl (kb, kb))) (rdD (.inl (0, 400)) (.inl (0, 400)) (.inl (0, 4000)) (.inl (0, 1)) (.inr [26, 27])) (xB 400 T) A14F A14F A4F A4F A14F A14F (riverD (.inl (x3, x3)) (.inl (y3, y3)) (.inl (0, 4)) 3 8 3 41 45 49) (riverD (.inl (x4, x4)) (.inl (y4, y4)) (.inl (0, 4)) 3 8 3 42 46 50) (xD 12 Da1) (xD 12 Da2) (xD 12 Da3) (xD 12 Da4) (xD 12 Sa1) (xD 12 Sa2) (xD 12 Sa3) (xD 12 Sa4) (xD 48 Qa1) (xD 48 Qa2) (xD 48 Qa3) (xD 48 Qa4)) H := hC
  have hTie : (kr = [26] → rowT x1 Da1 Sa1 Qa1 Z) ∧ (kr = [27] → rowT x2 Da2 Sa2 Qa2 Z) ∧ gI K0 0 = kb % 2 ∧ gI K0 1 = kb / 2 ∧ (kb % 2 = 1 → rowT x3 Da3 Sa3 Qa3 Y0) ∧ (kb / 2 = 1 → rowT x4 Da4 Sa4 Qa4 Y1) := hTie0
  clear hTie0
  have hk1 : (i + 1).toInt = i.toInt + 1 := by
    have h1 := i_add (x := i) (y := 1) (by rw [show (1 : Int32).toInt = 1 by decide]; omega) (by rw [show (1 : Int32).toInt = 1 by decide]; omega)
    rw [show (1 : Int32).toInt = 1 by decide] at h1
    exact h1
  refine lv_aload_n hx hb dL_law_1051 rfl (lv_at hl 2 rfl) ?_
  refine lv_aload_n hx hb dL_law_1052 rfl (lv_at hl 3 rfl) ?_
  refine lv_iload_n hx hb dL_law_1053 rfl (lv_at hl 0 rfl) ?_
  refine lv_iconst (v := 1) hx hb dL_law_1054 (by decide) ?_
  refine lv_iadd hx hb dL_law_1055 ?_
  refine va_sld hx hb hX hbl hbA hS (vinT (by rw [hk1]; omega)) dL_law_1056 ?_
  refine lv_topi (fun a1_0 ea1_0 => ?_)
  have hkr : ∀ t ∈ kr, t ∈ [26, 27] := by rcases hkk with ⟨h9_, -⟩ | ⟨h9_, -⟩ <;> rw [h9_] <;> decide
  have hks : ∀ t ∈ ks, t ∈ [26, 27] := by rcases hkk with ⟨-, h9_⟩ | ⟨-, h9_⟩ <;> rw [h9_] <;> decide
  refine lawVi (E := (eC l G k tC aX aV)) (b := h0) (As := [.int a1_0]) (rest := []) F hK hN hOc hTc (c_X6_movable (eC l G k tC aX aV) (rdD (.inl (0, 400)) (.inl (0, 400)) (.inl (0, 4000)) (.inl (0, 1)) (.inr [26, 27])) (xB 400 T) (kb, kb) (x1, x1) (y1, y1) (x2, x2) (y2, y2) (x3, x3) (y3, y3) (x4, x4) (y4, y4) kr ks (fun f_ => f_ = Da1) (fun f_ => f_ = Da2) (fun f_ => f_ = Da3) (fun f_ => f_ = Da4) (fun f_ => f_ = Sa1) (fun f_ => f_ = Sa2) (fun f_ => f_ = Sa3) (fun f_ => f_ = Sa4) (fun f_ => f_ = Qa1) (fun f_ => f_ = Qa2) (fun f_ => f_ = Qa3) (fun f_ => f_ = Qa4) t h0 a1_0 (List.mem_singleton.mpr hh0) (by omega) (by show 0 ≤ x1 ∧ x1 ≤ 12; omega) (by show 0 ≤ y1 ∧ y1 ≤ 14; omega) (by show 0 ≤ x2 ∧ x2 ≤ 12; omega) (by show 0 ≤ y2 ∧ y2 ≤ 14; omega) (by show 0 ≤ x3 ∧ x3 ≤ 12; omega) (by show 0 ≤ y3 ∧ y3 ≤ 14; omega) (by show 0 ≤ x4 ∧ x4 ≤ 12; omega) (by show 0 ≤ y4 ∧ y4 ≤ 14; omega) hkr hks (fun f_ h_ => ivX hDa1 h_) (fun f_ h_ => ivX hDa2 h_) (fun f_ h_ => ivX hDa3 h_) (fun f_ h_ => ivX hDa4 h_) (fun f_ h_ => ivX hSa1 h_) (fun f_ h_ => ivX hSa2 h_) (fun f_ h_ => ivX hSa3 h_) (fun f_ h_ => ivX hSa4 h_) (fun f_ h_ => ivX hQa1 h_) (fun f_ h_ => ivX hQa2 h_) (fun f_ h_ => ivX hQa3 h_) (fun f_ h_ => ivX hQa4 h_)) mv_X6_movable wd_48_18 ⟨Nat.le_of_ble_eq_true rfl, Nat.le_of_ble_eq_true rfl⟩ ⟨Nat.le_of_ble_eq_true rfl, Nat.le_of_ble_eq_true rfl⟩ hC hS (tRecv hK hC (by rw [show eT (eC l G k tC aX aV) h0 = 28 from hh0]; rfl) clX6) rfl hl.1 (Nat.le_of_ble_eq_true rfl) dL_law_1057 (fun v0 H1 locs hq hk_ hS => ?_)
  obtain ⟨f0_0, hN_⟩ := hq
  have hM := keptM hdis hM hk_
  have hC : TH (eC l G k tC aX aV) (tbC (dayD (.inl (0, 18))) (dayD (.inl (0, 18))) (riverD (.inl (x1, x1)) (.inl (y1, y1)) (.inl (0, 4)) 31 33 35 39 43 47) (riverD (.inl (x2, x2)) (.inl (y2, y2)) (.inl (0, 4)) 32 34 36 40 44 48) (rcD (.inl (t, t)) (.inr kr) (.inr ks) (.inl (kb, kb))) (rdD (.inl (0, 400)) (.inl (0, 400)) (.inl (0, 4000)) (.inl (0, 1)) (.inr [26, 27])) (xB 400 T) A14F A14F A4F A4F A14F A14F (riverD (.inl (x3, x3)) (.inl (y3, y3)) (.inl (0, 4)) 3 8 3 41 45 49) (riverD (.inl (x4, x4)) (.inl (y4, y4)) (.inl (0, 4)) 3 8 3 42 46 50) (xD 12 Da1) (xD 12 Da2) (xD 12 Da3) (xD 12 Da4) (xD 12 Sa1) (xD 12 Sa2) (xD 12 Sa3) (xD 12 Sa4) (xD 48 Qa1) (xD 48 Qa2) (xD 48 Qa3) (xD 48 Qa4)) H1 := hN_
  refine lv_pop hx hb dL_law_1060 rfl ?_
  refine lv_aload_n hx hb dL_law_1061 rfl (lv_at hl 1 rfl) ?_
  refine lv_aload_n hx hb dL_law_1062 rfl (lv_at hl 3 rfl) ?_
  refine lv_iload_n hx hb dL_law_1063 rfl (lv_at hl 0 rfl) ?_
  refine lv_iconst (v := 1) hx hb dL_law_1064 (by decide) ?_
  refine lv_iadd hx hb dL_law_1065 ?_
  refine va_sld hx hb hX hbl hbA hS (vinT (by rw [hk1]; omega)) dL_law_1066 ?_
  refine lv_topi (fun a1_1 ea1_1 => ?_)
  obtain rfl : a1_0 = a1_1 := ea1_0.trans ea1_1.symm
  refine lawVi (E := (eM l G k tM aX aV)) (b := g0) (As := [.int a1_0]) (rest := []) F hK hN hOm hTm (c_X7_movable (eM l G k tM aX aV) (xD 6600 W0) (xD 1320 V0) (xD 660 B1) (xB 400 T) (xZ 2 K0) (u, u) (((-2147483648), 2147483647)) (t, t) (((-2147483648), 2147483647)) (0, 4000) (((-2147483648), 2147483647)) (((-2147483648), 2147483647)) (0, 1) X0 A0 Z g0 a1_0 (List.mem_singleton.mpr hg0) hX0 hA0 hqX0) mv_X7_movable wd_48_22 ⟨Nat.le_of_ble_eq_true rfl, Nat.le_of_ble_eq_true rfl⟩ ⟨Nat.le_of_ble_eq_true rfl, Nat.le_of_ble_eq_true rfl⟩ hM hS (tRecv hK hM (by rw [show eT (eM l G k tM aX aV) g0 = 24 from hg0]; rfl) clX7) rfl hl.1 (Nat.le_of_ble_eq_true rfl) dL_law_1067 (fun v1 H1 locs hq hk_ hS => ?_)
  obtain ⟨X2_1, hX2_1, A2_1, hA2_1, f1_0, hN_⟩ := hq
  have hC := keptC hdis hC hk_
  have hM : TH (eM l G k tM aX aV) (tbM (mD (.inl (t, t)) (.inl (-2147483648, 2147483647)) (.inl (-2147483648, 2147483647)) (.inl (u, u)) (.inl (0, 18)) (.inl (-2147483648, 2147483647)) (.inl (0, 4000)) (.inl (-2147483648, 2147483647)) (.inl (0, 1))) (xD 660 X2_1) (xD 6600 W0) (xD 1320 V0) (xD 660 A2_1) (xD 660 B1) m_second (xB 400 T) (xZ 2 K0)) H1 := hN_
  refine lv_pop hx hb dL_law_1070 rfl ?_
  refine lv_goto (tgt := 1529) hx hb dL_law_1071 (by decide) ?_
  have hG_ : ((kr = [26] ∧ ks = [27]) ∨ (kr = [27] ∧ ks = [26])) ∧ (0 ≤ kb ∧ kb ≤ 3) ∧ (0 ≤ x1 ∧ x1 ≤ 12) ∧ (0 ≤ y1 ∧ y1 ≤ 14) ∧ (0 ≤ x2 ∧ x2 ≤ 12) ∧ (0 ≤ y2 ∧ y2 ≤ 14) ∧ (0 ≤ x3 ∧ x3 ≤ 12) ∧ (0 ≤ y3 ∧ y3 ≤ 14) ∧ (0 ≤ x4 ∧ x4 ≤ 12) ∧ (0 ≤ y4 ∧ y4 ≤ 14) ∧ ivP 12 (-2) 11 Da1 ∧ ivP 12 (-2147483648) 2147483647 Sa1 ∧ ivP 48 (-2147483648) 2147483647 Qa1 ∧ ivP 12 (-2) 11 Da2 ∧ ivP 12 (-2147483648) 2147483647 Sa2 ∧ ivP 48 (-2147483648) 2147483647 Qa2 ∧ ivP 12 (-2) 11 Da3 ∧ ivP 12 (-2147483648) 2147483647 Sa3 ∧ ivP 48 (-2147483648) 2147483647 Qa3 ∧ ivP 12 (-2) 11 Da4 ∧ ivP 12 (-2147483648) 2147483647 Sa4 ∧ ivP 48 (-2147483648) 2147483647 Qa4 := ⟨hkk, (by omega), (by omega), (by omega), (by omega), (by omega), (by omega), (by omega), (by omega), (by omega), hDa1, hSa1, hQa1, hDa2, hSa2, hQa2, hDa3, hSa3, hQa3, hDa4, hSa4, hQa4⟩
  exact hend t T (kr, ks, kb, x1, y1, x2, y2, x3, y3, x4, y4, Da1, Sa1, Qa1, Da2, Sa2, Qa2, Da3, Sa3, Qa3, Da4, Sa4, Qa4) _ _ ⟨(by omega), hT8⟩ hG_ hC ⟨X2_1, W0, V0, A2_1, B1, K0, Z, Y0, Y1, u, (by omega), hX2_1.1, hW0, hV0, hA2_1, hK0, hX2_1.2, hmW0, hy0, hy1, hTie, hM⟩ hS
set_option maxHeartbeats 4000000 in
set_option maxRecDepth 100000 in
theorem law_c28 {pg_ : Program} {l : Launch} {ev_ : Env} {s : State} {mi_ : MethodId} {below_ : List Frame} {meth : Method} {cd_ : Code} {H : Heap} {locs : List Loc} {ls : Array Slot} {b L : Nat} {xs : Nat → Int32} {G : va_G} {k : Nat → ClassId} {tC tM aX aV : Nat → Nat} {h0 g0 : Nat} {i : Int32} {t : Int} {T : RwF} {g : Gs} (B0 : LB pg_ s mi_ meth cd_ b L xs l G k tC tM aX aV h0 g0) (hi : 0 ≤ i.toInt ∧ i.toInt + 6 ≤ L) (ht : (0 ≤ t ∧ t ≤ 400) ∧ ivP 400 (-128) 127 T) (hg : Gok g) (hC : Cs (eC l G k tC aX aV) t T g H) (hMs : Ms (eM l G k tM aX aV) t T g H) (hS : va_S (lawA s) s.heap H locs) (hl : lv_has ls 4 [(3, .int i), (2, .ref g0), (1, .ref h0), (0, .ref b)]) (hend : ∀ (t : Int) (T : RwF) (g : Gs) (H : Heap) (locs : List Loc), ((0 ≤ t ∧ t ≤ 400) ∧ ivP 400 (-128) 127 T) → Gok g → Cs (eC l G k tC aX aV) t T g H → Ms (eM l G k tM aX aV) t T g H → va_S (lawA s) s.heap H locs → W pg_ l ev_ room_1 s mi_ #[Value.ref b] below_ meth cd_ H locs 294 18964 (lw_Z below_ #[Value.ref b] s) (F0 mi_ 1529 ls [])) : W pg_ l ev_ room_1 s mi_ #[Value.ref b] below_ meth cd_ H locs 294 18964 (lw_Z below_ #[Value.ref b] s) (F0 mi_ 1074 ls []) := by
  obtain ⟨F, hK, hN, hOc, hOm, hX, hbl, hL, hTc, hTm, hdis, hh0, hg0⟩ := id B0
  obtain ⟨hx, hb, hr, hml, hown, hlk, hw, -⟩ := id F
  have hbA : ¬ lawA s b := fun q => absurd q (by unfold lawA; omega)
  obtain ⟨kr, ks, kb, x1, y1, x2, y2, x3, y3, x4, y4, Da1, Sa1, Qa1, Da2, Sa2, Qa2, Da3, Sa3, Qa3, Da4, Sa4, Qa4⟩ := g
  obtain ⟨X0, W0, V0, A0, B1, K0, Z, Y0, Y1, u, hu, hX0, hW0, hV0, hA0, hK0, hqX0, hmW0, hy0, hy1, hTie0, hM⟩ := hMs
  obtain ⟨ht, hT8⟩ := ht
  have hg : ((kr = [26] ∧ ks = [27]) ∨ (kr = [27] ∧ ks = [26])) ∧ (0 ≤ kb ∧ kb ≤ 3) ∧ (0 ≤ x1 ∧ x1 ≤ 12) ∧ (0 ≤ y1 ∧ y1 ≤ 14) ∧ (0 ≤ x2 ∧ x2 ≤ 12) ∧ (0 ≤ y2 ∧ y2 ≤ 14) ∧ (0 ≤ x3 ∧ x3 ≤ 12) ∧ (0 ≤ y3 ∧ y3 ≤ 14) ∧ (0 ≤ x4 ∧ x4 ≤ 12) ∧ (0 ≤ y4 ∧ y4 ≤ 14) ∧ ivP 12 (-2) 11 Da1 ∧ ivP 12 (-2147483648) 2147483647 Sa1 ∧ ivP 48 (-2147483648) 2147483647 Qa1 ∧ ivP 12 (-2) 11 Da2 ∧ ivP 12 (-2147483648) 2147483647 Sa2 ∧ ivP 48 (-2147483648) 2147483647 Qa2 ∧ ivP 12 (-2) 11 Da3 ∧ ivP 12 (-2147483648) 2147483647 Sa3 ∧ ivP 48 (-2147483648) 2147483647 Qa3 ∧ ivP 12 (-2) 11 Da4 ∧ ivP 12 (-2147483648) 2147483647 Sa4 ∧ ivP 48 (-2147483648) 2147483647 Qa4 := hg
  obtain ⟨hkk, hkb, hx1, hy1_, hx2, hy2_, hx3, hy3_, hx4, hy4_, hDa1, hSa1, hQa1, hDa2, hSa2, hQa2, hDa3, hSa3, hQa3, hDa4, hSa4, hQa4⟩ := hg
  have hC : TH (eC l G k tC aX aV) (tbC (dayD (.inl (0, 18))) (dayD (.inl (0, 18))) (riverD (.inl (x1, x1)) (.inl (y1, y1)) (.inl (0, 4)) 31 33 35 39 43 47) (riverD (.inl (x2, x2)) (.inl (y2, y2)) (.inl (0, 4)) 32 34 36 40 44 48) (rcD (.inl (t, t)) (.inr kr) (.inr ks) (.inl (kb, kb))) (rdD (.inl (0, 400)) (.inl (0, 400)) (.inl (0, 4000)) (.inl (0, 1)) (.inr [26, 27])) (xB 400 T) A14F A14F A4F A4F A14F A14F (riverD (.inl (x3, x3)) (.inl (y3, y3)) (.inl (0, 4)) 3 8 3 41 45 49) (riverD (.inl (x4, x4)) (.inl (y4, y4)) (.inl (0, 4)) 3 8 3 42 46 50) (xD 12 Da1) (xD 12 Da2) (xD 12 Da3) (xD 12 Da4) (xD 12 Sa1) (xD 12 Sa2) (xD 12 Sa3) (xD 12 Sa4) (xD 48 Qa1) (xD 48 Qa2) (xD 48 Qa3) (xD 48 Qa4)) H := hC
  have hTie : (kr = [26] → rowT x1 Da1 Sa1 Qa1 Z) ∧ (kr = [27] → rowT x2 Da2 Sa2 Qa2 Z) ∧ gI K0 0 = kb % 2 ∧ gI K0 1 = kb / 2 ∧ (kb % 2 = 1 → rowT x3 Da3 Sa3 Qa3 Y0) ∧ (kb / 2 = 1 → rowT x4 Da4 Sa4 Qa4 Y1) := hTie0
  clear hTie0
  have hk1 : (i + 1).toInt = i.toInt + 1 := by
    have h1 := i_add (x := i) (y := 1) (by rw [show (1 : Int32).toInt = 1 by decide]; omega) (by rw [show (1 : Int32).toInt = 1 by decide]; omega)
    rw [show (1 : Int32).toInt = 1 by decide] at h1
    exact h1
  refine lv_aload_n hx hb dL_law_1074 rfl (lv_at hl 2 rfl) ?_
  refine lv_aload_n hx hb dL_law_1075 rfl (lv_at hl 3 rfl) ?_
  refine lv_iload_n hx hb dL_law_1076 rfl (lv_at hl 0 rfl) ?_
  refine lv_iconst (v := 1) hx hb dL_law_1077 (by decide) ?_
  refine lv_iadd hx hb dL_law_1078 ?_
  refine va_sld hx hb hX hbl hbA hS (vinT (by rw [hk1]; omega)) dL_law_1079 ?_
  refine lv_topi (fun a1_0 ea1_0 => ?_)
  have hkr : ∀ t ∈ kr, t ∈ [26, 27] := by rcases hkk with ⟨h9_, -⟩ | ⟨h9_, -⟩ <;> rw [h9_] <;> decide
  have hks : ∀ t ∈ ks, t ∈ [26, 27] := by rcases hkk with ⟨-, h9_⟩ | ⟨-, h9_⟩ <;> rw [h9_] <;> decide
  refine lawVi (E := (eC l G k tC aX aV)) (b := h0) (As := [.int a1_0]) (rest := []) F hK hN hOc hTc (c_X6_aged (eC l G k tC aX aV) (rdD (.inl (0, 400)) (.inl (0, 400)) (.inl (0, 4000)) (.inl (0, 1)) (.inr [26, 27])) (xB 400 T) (kb, kb) (x1, x1) (y1, y1) (x2, x2) (y2, y2) (x3, x3) (y3, y3) (x4, x4) (y4, y4) kr ks (fun f_ => f_ = Da1) (fun f_ => f_ = Da2) (fun f_ => f_ = Da3) (fun f_ => f_ = Da4) (fun f_ => f_ = Sa1) (fun f_ => f_ = Sa2) (fun f_ => f_ = Sa3) (fun f_ => f_ = Sa4) (fun f_ => f_ = Qa1) (fun f_ => f_ = Qa2) (fun f_ => f_ = Qa3) (fun f_ => f_ = Qa4) t h0 a1_0 (List.mem_singleton.mpr hh0) (by omega) (by show 0 ≤ x1 ∧ x1 ≤ 12; omega) (by show 0 ≤ y1 ∧ y1 ≤ 14; omega) (by show 0 ≤ x2 ∧ x2 ≤ 12; omega) (by show 0 ≤ y2 ∧ y2 ≤ 14; omega) (by show 0 ≤ x3 ∧ x3 ≤ 12; omega) (by show 0 ≤ y3 ∧ y3 ≤ 14; omega) (by show 0 ≤ x4 ∧ x4 ≤ 12; omega) (by show 0 ≤ y4 ∧ y4 ≤ 14; omega) hkr hks (fun f_ h_ => ivX hDa1 h_) (fun f_ h_ => ivX hDa2 h_) (fun f_ h_ => ivX hDa3 h_) (fun f_ h_ => ivX hDa4 h_) (fun f_ h_ => ivX hSa1 h_) (fun f_ h_ => ivX hSa2 h_) (fun f_ h_ => ivX hSa3 h_) (fun f_ h_ => ivX hSa4 h_) (fun f_ h_ => ivX hQa1 h_) (fun f_ h_ => ivX hQa2 h_) (fun f_ h_ => ivX hQa3 h_) (fun f_ h_ => ivX hQa4 h_)) mv_X6_aged wd_49_2 ⟨Nat.le_of_ble_eq_true rfl, Nat.le_of_ble_eq_true rfl⟩ ⟨Nat.le_of_ble_eq_true rfl, Nat.le_of_ble_eq_true rfl⟩ hC hS (tRecv hK hC (by rw [show eT (eC l G k tC aX aV) h0 = 28 from hh0]; rfl) clX6) rfl hl.1 (Nat.le_of_ble_eq_true rfl) dL_law_1080 (fun v0 H1 locs hq hk_ hS => ?_)
  obtain ⟨f0_0, hN_⟩ := hq
  have hM := keptM hdis hM hk_
  have hC : TH (eC l G k tC aX aV) (tbC (dayD (.inl (0, 18))) (dayD (.inl (0, 18))) (riverD (.inl (x1, x1)) (.inl (y1, y1)) (.inl (0, 4)) 31 33 35 39 43 47) (riverD (.inl (x2, x2)) (.inl (y2, y2)) (.inl (0, 4)) 32 34 36 40 44 48) (rcD (.inl (t, t)) (.inr kr) (.inr ks) (.inl (kb, kb))) (rdD (.inl (0, 400)) (.inl (0, 400)) (.inl (0, 4000)) (.inl (0, 1)) (.inr [26, 27])) (xB 400 T) A14F A14F A4F A4F A14F A14F (riverD (.inl (x3, x3)) (.inl (y3, y3)) (.inl (0, 4)) 3 8 3 41 45 49) (riverD (.inl (x4, x4)) (.inl (y4, y4)) (.inl (0, 4)) 3 8 3 42 46 50) (xD 12 Da1) (xD 12 Da2) (xD 12 Da3) (xD 12 Da4) (xD 12 Sa1) (xD 12 Sa2) (xD 12 Sa3) (xD 12 Sa4) (xD 48 Qa1) (xD 48 Qa2) (xD 48 Qa3) (xD 48 Qa4)) H1 := hN_
  refine lv_pop hx hb dL_law_1083 rfl ?_
  refine lv_aload_n hx hb dL_law_1084 rfl (lv_at hl 1 rfl) ?_
  refine lv_aload_n hx hb dL_law_1085 rfl (lv_at hl 3 rfl) ?_
  refine lv_iload_n hx hb dL_law_1086 rfl (lv_at hl 0 rfl) ?_
  refine lv_iconst (v := 1) hx hb dL_law_1087 (by decide) ?_
  refine lv_iadd hx hb dL_law_1088 ?_
  refine va_sld hx hb hX hbl hbA hS (vinT (by rw [hk1]; omega)) dL_law_1089 ?_
  refine lv_topi (fun a1_1 ea1_1 => ?_)
  obtain rfl : a1_0 = a1_1 := ea1_0.trans ea1_1.symm
  refine lawVi (E := (eM l G k tM aX aV)) (b := g0) (As := [.int a1_0]) (rest := []) F hK hN hOm hTm (c_X7_aged (eM l G k tM aX aV) (xD 6600 W0) (xD 1320 V0) (xD 660 A0) (xD 660 B1) m_second (xB 400 T) (xZ 2 K0) (u, u) (((-2147483648), 2147483647)) (t, t) (((-2147483648), 2147483647)) (0, 4000) (((-2147483648), 2147483647)) (((-2147483648), 2147483647)) (0, 1) X0 g0 a1_0 (List.mem_singleton.mpr hg0) hX0) mv_X7_aged wd_49_6 ⟨Nat.le_of_ble_eq_true rfl, Nat.le_of_ble_eq_true rfl⟩ ⟨Nat.le_of_ble_eq_true rfl, Nat.le_of_ble_eq_true rfl⟩ hM hS (tRecv hK hM (by rw [show eT (eM l G k tM aX aV) g0 = 24 from hg0]; rfl) clX7) rfl hl.1 (Nat.le_of_ble_eq_true rfl) dL_law_1090 (fun v1 H1 locs hq hk_ hS => ?_)
  obtain ⟨f1_0, hN_⟩ := hq
  have hC := keptC hdis hC hk_
  have hM : TH (eM l G k tM aX aV) (tbM (mD (.inl (t, t)) (.inl (-2147483648, 2147483647)) (.inl (-2147483648, 2147483647)) (.inl (u, u)) (.inl (0, 18)) (.inl (-2147483648, 2147483647)) (.inl (0, 4000)) (.inl (-2147483648, 2147483647)) (.inl (0, 1))) (xD 660 X0) (xD 6600 W0) (xD 1320 V0) (xD 660 A0) (xD 660 B1) m_second (xB 400 T) (xZ 2 K0)) H1 := hN_
  refine lv_pop hx hb dL_law_1093 rfl ?_
  refine lv_goto (tgt := 1529) hx hb dL_law_1094 (by decide) ?_
  have hG_ : ((kr = [26] ∧ ks = [27]) ∨ (kr = [27] ∧ ks = [26])) ∧ (0 ≤ kb ∧ kb ≤ 3) ∧ (0 ≤ x1 ∧ x1 ≤ 12) ∧ (0 ≤ y1 ∧ y1 ≤ 14) ∧ (0 ≤ x2 ∧ x2 ≤ 12) ∧ (0 ≤ y2 ∧ y2 ≤ 14) ∧ (0 ≤ x3 ∧ x3 ≤ 12) ∧ (0 ≤ y3 ∧ y3 ≤ 14) ∧ (0 ≤ x4 ∧ x4 ≤ 12) ∧ (0 ≤ y4 ∧ y4 ≤ 14) ∧ ivP 12 (-2) 11 Da1 ∧ ivP 12 (-2147483648) 2147483647 Sa1 ∧ ivP 48 (-2147483648) 2147483647 Qa1 ∧ ivP 12 (-2) 11 Da2 ∧ ivP 12 (-2147483648) 2147483647 Sa2 ∧ ivP 48 (-2147483648) 2147483647 Qa2 ∧ ivP 12 (-2) 11 Da3 ∧ ivP 12 (-2147483648) 2147483647 Sa3 ∧ ivP 48 (-2147483648) 2147483647 Qa3 ∧ ivP 12 (-2) 11 Da4 ∧ ivP 12 (-2147483648) 2147483647 Sa4 ∧ ivP 48 (-2147483648) 2147483647 Qa4 := ⟨hkk, (by omega), (by omega), (by omega), (by omega), (by omega), (by omega), (by omega), (by omega), (by omega), hDa1, hSa1, hQa1, hDa2, hSa2, hQa2, hDa3, hSa3, hQa3, hDa4, hSa4, hQa4⟩
  exact hend t T (kr, ks, kb, x1, y1, x2, y2, x3, y3, x4, y4, Da1, Sa1, Qa1, Da2, Sa2, Qa2, Da3, Sa3, Qa3, Da4, Sa4, Qa4) _ _ ⟨(by omega), hT8⟩ hG_ hC ⟨X0, W0, V0, A0, B1, K0, Z, Y0, Y1, u, (by omega), hX0, hW0, hV0, hA0, hK0, hqX0, hmW0, hy0, hy1, hTie, hM⟩ hS
set_option maxHeartbeats 4000000 in
set_option maxRecDepth 100000 in
theorem law_c29 {pg_ : Program} {l : Launch} {ev_ : Env} {s : State} {mi_ : MethodId} {below_ : List Frame} {meth : Method} {cd_ : Code} {H : Heap} {locs : List Loc} {ls : Array Slot} {b L : Nat} {xs : Nat → Int32} {G : va_G} {k : Nat → ClassId} {tC tM aX aV : Nat → Nat} {h0 g0 : Nat} {i : Int32} {t : Int} {T : RwF} {g : Gs} (B0 : LB pg_ s mi_ meth cd_ b L xs l G k tC tM aX aV h0 g0) (hi : 0 ≤ i.toInt ∧ i.toInt + 6 ≤ L) (ht : (0 ≤ t ∧ t ≤ 400) ∧ ivP 400 (-128) 127 T) (hg : Gok g) (hC : Cs (eC l G k tC aX aV) t T g H) (hMs : Ms (eM l G k tM aX aV) t T g H) (hS : va_S (lawA s) s.heap H locs) (hl : lv_has ls 4 [(3, .int i), (2, .ref g0), (1, .ref h0), (0, .ref b)]) (hend : ∀ (t : Int) (T : RwF) (g : Gs) (H : Heap) (locs : List Loc), ((0 ≤ t ∧ t ≤ 400) ∧ ivP 400 (-128) 127 T) → Gok g → Cs (eC l G k tC aX aV) t T g H → Ms (eM l G k tM aX aV) t T g H → va_S (lawA s) s.heap H locs → W pg_ l ev_ room_1 s mi_ #[Value.ref b] below_ meth cd_ H locs 294 18964 (lw_Z below_ #[Value.ref b] s) (F0 mi_ 1529 ls [])) : W pg_ l ev_ room_1 s mi_ #[Value.ref b] below_ meth cd_ H locs 294 18964 (lw_Z below_ #[Value.ref b] s) (F0 mi_ 1097 ls []) := by
  obtain ⟨F, hK, hN, hOc, hOm, hX, hbl, hL, hTc, hTm, hdis, hh0, hg0⟩ := id B0
  obtain ⟨hx, hb, hr, hml, hown, hlk, hw, -⟩ := id F
  have hbA : ¬ lawA s b := fun q => absurd q (by unfold lawA; omega)
  obtain ⟨kr, ks, kb, x1, y1, x2, y2, x3, y3, x4, y4, Da1, Sa1, Qa1, Da2, Sa2, Qa2, Da3, Sa3, Qa3, Da4, Sa4, Qa4⟩ := g
  obtain ⟨X0, W0, V0, A0, B1, K0, Z, Y0, Y1, u, hu, hX0, hW0, hV0, hA0, hK0, hqX0, hmW0, hy0, hy1, hTie0, hM⟩ := hMs
  obtain ⟨ht, hT8⟩ := ht
  have hg : ((kr = [26] ∧ ks = [27]) ∨ (kr = [27] ∧ ks = [26])) ∧ (0 ≤ kb ∧ kb ≤ 3) ∧ (0 ≤ x1 ∧ x1 ≤ 12) ∧ (0 ≤ y1 ∧ y1 ≤ 14) ∧ (0 ≤ x2 ∧ x2 ≤ 12) ∧ (0 ≤ y2 ∧ y2 ≤ 14) ∧ (0 ≤ x3 ∧ x3 ≤ 12) ∧ (0 ≤ y3 ∧ y3 ≤ 14) ∧ (0 ≤ x4 ∧ x4 ≤ 12) ∧ (0 ≤ y4 ∧ y4 ≤ 14) ∧ ivP 12 (-2) 11 Da1 ∧ ivP 12 (-2147483648) 2147483647 Sa1 ∧ ivP 48 (-2147483648) 2147483647 Qa1 ∧ ivP 12 (-2) 11 Da2 ∧ ivP 12 (-2147483648) 2147483647 Sa2 ∧ ivP 48 (-2147483648) 2147483647 Qa2 ∧ ivP 12 (-2) 11 Da3 ∧ ivP 12 (-2147483648) 2147483647 Sa3 ∧ ivP 48 (-2147483648) 2147483647 Qa3 ∧ ivP 12 (-2) 11 Da4 ∧ ivP 12 (-2147483648) 2147483647 Sa4 ∧ ivP 48 (-2147483648) 2147483647 Qa4 := hg
  obtain ⟨hkk, hkb, hx1, hy1_, hx2, hy2_, hx3, hy3_, hx4, hy4_, hDa1, hSa1, hQa1, hDa2, hSa2, hQa2, hDa3, hSa3, hQa3, hDa4, hSa4, hQa4⟩ := hg
  have hC : TH (eC l G k tC aX aV) (tbC (dayD (.inl (0, 18))) (dayD (.inl (0, 18))) (riverD (.inl (x1, x1)) (.inl (y1, y1)) (.inl (0, 4)) 31 33 35 39 43 47) (riverD (.inl (x2, x2)) (.inl (y2, y2)) (.inl (0, 4)) 32 34 36 40 44 48) (rcD (.inl (t, t)) (.inr kr) (.inr ks) (.inl (kb, kb))) (rdD (.inl (0, 400)) (.inl (0, 400)) (.inl (0, 4000)) (.inl (0, 1)) (.inr [26, 27])) (xB 400 T) A14F A14F A4F A4F A14F A14F (riverD (.inl (x3, x3)) (.inl (y3, y3)) (.inl (0, 4)) 3 8 3 41 45 49) (riverD (.inl (x4, x4)) (.inl (y4, y4)) (.inl (0, 4)) 3 8 3 42 46 50) (xD 12 Da1) (xD 12 Da2) (xD 12 Da3) (xD 12 Da4) (xD 12 Sa1) (xD 12 Sa2) (xD 12 Sa3) (xD 12 Sa4) (xD 48 Qa1) (xD 48 Qa2) (xD 48 Qa3) (xD 48 Qa4)) H := hC
  have hTie : (kr = [26] → rowT x1 Da1 Sa1 Qa1 Z) ∧ (kr = [27] → rowT x2 Da2 Sa2 Qa2 Z) ∧ gI K0 0 = kb % 2 ∧ gI K0 1 = kb / 2 ∧ (kb % 2 = 1 → rowT x3 Da3 Sa3 Qa3 Y0) ∧ (kb / 2 = 1 → rowT x4 Da4 Sa4 Qa4 Y1) := hTie0
  clear hTie0
  have hk1 : (i + 1).toInt = i.toInt + 1 := by
    have h1 := i_add (x := i) (y := 1) (by rw [show (1 : Int32).toInt = 1 by decide]; omega) (by rw [show (1 : Int32).toInt = 1 by decide]; omega)
    rw [show (1 : Int32).toInt = 1 by decide] at h1
    exact h1
  have hk2 : (i + 2).toInt = i.toInt + 2 := by
    have h1 := i_add (x := i) (y := 2) (by rw [show (2 : Int32).toInt = 2 by decide]; omega) (by rw [show (2 : Int32).toInt = 2 by decide]; omega)
    rw [show (2 : Int32).toInt = 2 by decide] at h1
    exact h1
  refine lv_aload_n hx hb dL_law_1097 rfl (lv_at hl 2 rfl) ?_
  refine lv_aload_n hx hb dL_law_1098 rfl (lv_at hl 3 rfl) ?_
  refine lv_iload_n hx hb dL_law_1099 rfl (lv_at hl 0 rfl) ?_
  refine lv_iconst (v := 1) hx hb dL_law_1100 (by decide) ?_
  refine lv_iadd hx hb dL_law_1101 ?_
  refine va_sld hx hb hX hbl hbA hS (vinT (by rw [hk1]; omega)) dL_law_1102 ?_
  refine lv_topi (fun a1_0 ea1_0 => ?_)
  refine lv_aload_n hx hb dL_law_1103 rfl (lv_at hl 3 rfl) ?_
  refine lv_iload_n hx hb dL_law_1104 rfl (lv_at hl 0 rfl) ?_
  refine lv_iconst (v := 2) hx hb dL_law_1105 (by decide) ?_
  refine lv_iadd hx hb dL_law_1106 ?_
  refine va_sld hx hb hX hbl hbA hS (vinT (by rw [hk2]; omega)) dL_law_1107 ?_
  refine lv_topi (fun a2_0 ea2_0 => ?_)
  have hkr : ∀ t ∈ kr, t ∈ [26, 27] := by rcases hkk with ⟨h9_, -⟩ | ⟨h9_, -⟩ <;> rw [h9_] <;> decide
  have hks : ∀ t ∈ ks, t ∈ [26, 27] := by rcases hkk with ⟨-, h9_⟩ | ⟨-, h9_⟩ <;> rw [h9_] <;> decide
  refine lawVi (E := (eC l G k tC aX aV)) (b := h0) (As := [.int a1_0, .int a2_0]) (rest := []) F hK hN hOc hTc (c_X6_runs (eC l G k tC aX aV) (rdD (.inl (0, 400)) (.inl (0, 400)) (.inl (0, 4000)) (.inl (0, 1)) (.inr [26, 27])) (xB 400 T) (kb, kb) (x1, x1) (y1, y1) (x2, x2) (y2, y2) (x3, x3) (y3, y3) (x4, x4) (y4, y4) kr ks (fun f_ => f_ = Da1) (fun f_ => f_ = Da2) (fun f_ => f_ = Da3) (fun f_ => f_ = Da4) (fun f_ => f_ = Sa1) (fun f_ => f_ = Sa2) (fun f_ => f_ = Sa3) (fun f_ => f_ = Sa4) (fun f_ => f_ = Qa1) (fun f_ => f_ = Qa2) (fun f_ => f_ = Qa3) (fun f_ => f_ = Qa4) t h0 a1_0 a2_0 (List.mem_singleton.mpr hh0) (by omega) (by show 0 ≤ x1 ∧ x1 ≤ 12; omega) (by show 0 ≤ y1 ∧ y1 ≤ 14; omega) (by show 0 ≤ x2 ∧ x2 ≤ 12; omega) (by show 0 ≤ y2 ∧ y2 ≤ 14; omega) (by show 0 ≤ x3 ∧ x3 ≤ 12; omega) (by show 0 ≤ y3 ∧ y3 ≤ 14; omega) (by show 0 ≤ x4 ∧ x4 ≤ 12; omega) (by show 0 ≤ y4 ∧ y4 ≤ 14; omega) hkr hks (fun f_ h_ => ivX hDa1 h_) (fun f_ h_ => ivX hDa2 h_) (fun f_ h_ => ivX hDa3 h_) (fun f_ h_ => ivX hDa4 h_) (fun f_ h_ => ivX hSa1 h_) (fun f_ h_ => ivX hSa2 h_) (fun f_ h_ => ivX hSa3 h_) (fun f_ h_ => ivX hSa4 h_) (fun f_ h_ => ivX hQa1 h_) (fun f_ h_ => ivX hQa2 h_) (fun f_ h_ => ivX hQa3 h_) (fun f_ h_ => ivX hQa4 h_)) mv_X6_runs wd_49_10 ⟨Nat.le_of_ble_eq_true rfl, Nat.le_of_ble_eq_true rfl⟩ ⟨Nat.le_of_ble_eq_true rfl, Nat.le_of_ble_eq_true rfl⟩ hC hS (tRecv hK hC (by rw [show eT (eC l G k tC aX aV) h0 = 28 from hh0]; rfl) clX6) rfl hl.1 (Nat.le_of_ble_eq_true rfl) dL_law_1108 (fun v0 H1 locs hq hk_ hS => ?_)
  obtain ⟨f0_0, hN_⟩ := hq
  have hM := keptM hdis hM hk_
  have hC : TH (eC l G k tC aX aV) (tbC (dayD (.inl (0, 18))) (dayD (.inl (0, 18))) (riverD (.inl (x1, x1)) (.inl (y1, y1)) (.inl (0, 4)) 31 33 35 39 43 47) (riverD (.inl (x2, x2)) (.inl (y2, y2)) (.inl (0, 4)) 32 34 36 40 44 48) (rcD (.inl (t, t)) (.inr kr) (.inr ks) (.inl (kb, kb))) (rdD (.inl (0, 400)) (.inl (0, 400)) (.inl (0, 4000)) (.inl (0, 1)) (.inr [26, 27])) (xB 400 T) A14F A14F A4F A4F A14F A14F (riverD (.inl (x3, x3)) (.inl (y3, y3)) (.inl (0, 4)) 3 8 3 41 45 49) (riverD (.inl (x4, x4)) (.inl (y4, y4)) (.inl (0, 4)) 3 8 3 42 46 50) (xD 12 Da1) (xD 12 Da2) (xD 12 Da3) (xD 12 Da4) (xD 12 Sa1) (xD 12 Sa2) (xD 12 Sa3) (xD 12 Sa4) (xD 48 Qa1) (xD 48 Qa2) (xD 48 Qa3) (xD 48 Qa4)) H1 := hN_
  refine lv_pop hx hb dL_law_1111 rfl ?_
  refine lv_aload_n hx hb dL_law_1112 rfl (lv_at hl 1 rfl) ?_
  refine lv_aload_n hx hb dL_law_1113 rfl (lv_at hl 3 rfl) ?_
  refine lv_iload_n hx hb dL_law_1114 rfl (lv_at hl 0 rfl) ?_
  refine lv_iconst (v := 1) hx hb dL_law_1115 (by decide) ?_
  refine lv_iadd hx hb dL_law_1116 ?_
  refine va_sld hx hb hX hbl hbA hS (vinT (by rw [hk1]; omega)) dL_law_1117 ?_
  refine lv_topi (fun a1_1 ea1_1 => ?_)
  obtain rfl : a1_0 = a1_1 := ea1_0.trans ea1_1.symm
  refine lv_aload_n hx hb dL_law_1118 rfl (lv_at hl 3 rfl) ?_
  refine lv_iload_n hx hb dL_law_1119 rfl (lv_at hl 0 rfl) ?_
  refine lv_iconst (v := 2) hx hb dL_law_1120 (by decide) ?_
  refine lv_iadd hx hb dL_law_1121 ?_
  refine va_sld hx hb hX hbl hbA hS (vinT (by rw [hk2]; omega)) dL_law_1122 ?_
  refine lv_topi (fun a2_1 ea2_1 => ?_)
  obtain rfl : a2_0 = a2_1 := ea2_0.trans ea2_1.symm
  refine lawVi (E := (eM l G k tM aX aV)) (b := g0) (As := [.int a1_0, .int a2_0]) (rest := []) F hK hN hOm hTm (c_X7_runs (eM l G k tM aX aV) (xD 6600 W0) (xD 1320 V0) (xD 660 B1) (xB 400 T) (xZ 2 K0) (u, u) (((-2147483648), 2147483647)) (t, t) (((-2147483648), 2147483647)) (0, 4000) (((-2147483648), 2147483647)) (((-2147483648), 2147483647)) (0, 1) X0 A0 Z g0 a1_0 a2_0 (List.mem_singleton.mpr hg0) hX0 hA0 hqX0) mv_X7_runs wd_49_20 ⟨Nat.le_of_ble_eq_true rfl, Nat.le_of_ble_eq_true rfl⟩ ⟨Nat.le_of_ble_eq_true rfl, Nat.le_of_ble_eq_true rfl⟩ hM hS (tRecv hK hM (by rw [show eT (eM l G k tM aX aV) g0 = 24 from hg0]; rfl) clX7) rfl hl.1 (Nat.le_of_ble_eq_true rfl) dL_law_1123 (fun v1 H1 locs hq hk_ hS => ?_)
  obtain ⟨X2_1, hX2_1, A2_1, hA2_1, f1_0, hN_⟩ := hq
  have hC := keptC hdis hC hk_
  have hM : TH (eM l G k tM aX aV) (tbM (mD (.inl (t, t)) (.inl (-2147483648, 2147483647)) (.inl (-2147483648, 2147483647)) (.inl (u, u)) (.inl (0, 18)) (.inl (-2147483648, 2147483647)) (.inl (0, 4000)) (.inl (-2147483648, 2147483647)) (.inl (0, 1))) (xD 660 X2_1) (xD 6600 W0) (xD 1320 V0) (xD 660 A2_1) (xD 660 B1) m_second (xB 400 T) (xZ 2 K0)) H1 := hN_
  refine lv_pop hx hb dL_law_1126 rfl ?_
  refine lv_goto (tgt := 1529) hx hb dL_law_1127 (by decide) ?_
  have hG_ : ((kr = [26] ∧ ks = [27]) ∨ (kr = [27] ∧ ks = [26])) ∧ (0 ≤ kb ∧ kb ≤ 3) ∧ (0 ≤ x1 ∧ x1 ≤ 12) ∧ (0 ≤ y1 ∧ y1 ≤ 14) ∧ (0 ≤ x2 ∧ x2 ≤ 12) ∧ (0 ≤ y2 ∧ y2 ≤ 14) ∧ (0 ≤ x3 ∧ x3 ≤ 12) ∧ (0 ≤ y3 ∧ y3 ≤ 14) ∧ (0 ≤ x4 ∧ x4 ≤ 12) ∧ (0 ≤ y4 ∧ y4 ≤ 14) ∧ ivP 12 (-2) 11 Da1 ∧ ivP 12 (-2147483648) 2147483647 Sa1 ∧ ivP 48 (-2147483648) 2147483647 Qa1 ∧ ivP 12 (-2) 11 Da2 ∧ ivP 12 (-2147483648) 2147483647 Sa2 ∧ ivP 48 (-2147483648) 2147483647 Qa2 ∧ ivP 12 (-2) 11 Da3 ∧ ivP 12 (-2147483648) 2147483647 Sa3 ∧ ivP 48 (-2147483648) 2147483647 Qa3 ∧ ivP 12 (-2) 11 Da4 ∧ ivP 12 (-2147483648) 2147483647 Sa4 ∧ ivP 48 (-2147483648) 2147483647 Qa4 := ⟨hkk, (by omega), (by omega), (by omega), (by omega), (by omega), (by omega), (by omega), (by omega), (by omega), hDa1, hSa1, hQa1, hDa2, hSa2, hQa2, hDa3, hSa3, hQa3, hDa4, hSa4, hQa4⟩
  exact hend t T (kr, ks, kb, x1, y1, x2, y2, x3, y3, x4, y4, Da1, Sa1, Qa1, Da2, Sa2, Qa2, Da3, Sa3, Qa3, Da4, Sa4, Qa4) _ _ ⟨(by omega), hT8⟩ hG_ hC ⟨X2_1, W0, V0, A2_1, B1, K0, Z, Y0, Y1, u, (by omega), hX2_1.1, hW0, hV0, hA2_1, hK0, hX2_1.2, hmW0, hy0, hy1, hTie, hM⟩ hS
set_option maxHeartbeats 4000000 in
set_option maxRecDepth 100000 in
theorem law_c30 {pg_ : Program} {l : Launch} {ev_ : Env} {s : State} {mi_ : MethodId} {below_ : List Frame} {meth : Method} {cd_ : Code} {H : Heap} {locs : List Loc} {ls : Array Slot} {b L : Nat} {xs : Nat → Int32} {G : va_G} {k : Nat → ClassId} {tC tM aX aV : Nat → Nat} {h0 g0 : Nat} {i : Int32} {t : Int} {T : RwF} {g : Gs} (B0 : LB pg_ s mi_ meth cd_ b L xs l G k tC tM aX aV h0 g0) (hi : 0 ≤ i.toInt ∧ i.toInt + 6 ≤ L) (ht : (0 ≤ t ∧ t ≤ 400) ∧ ivP 400 (-128) 127 T) (hg : Gok g) (hC : Cs (eC l G k tC aX aV) t T g H) (hMs : Ms (eM l G k tM aX aV) t T g H) (hS : va_S (lawA s) s.heap H locs) (hl : lv_has ls 4 [(3, .int i), (2, .ref g0), (1, .ref h0), (0, .ref b)]) (hend : ∀ (t : Int) (T : RwF) (g : Gs) (H : Heap) (locs : List Loc), ((0 ≤ t ∧ t ≤ 400) ∧ ivP 400 (-128) 127 T) → Gok g → Cs (eC l G k tC aX aV) t T g H → Ms (eM l G k tM aX aV) t T g H → va_S (lawA s) s.heap H locs → W pg_ l ev_ room_1 s mi_ #[Value.ref b] below_ meth cd_ H locs 294 18964 (lw_Z below_ #[Value.ref b] s) (F0 mi_ 1529 ls [])) : W pg_ l ev_ room_1 s mi_ #[Value.ref b] below_ meth cd_ H locs 294 18964 (lw_Z below_ #[Value.ref b] s) (F0 mi_ 1130 ls []) := by
  obtain ⟨F, hK, hN, hOc, hOm, hX, hbl, hL, hTc, hTm, hdis, hh0, hg0⟩ := id B0
  obtain ⟨hx, hb, hr, hml, hown, hlk, hw, -⟩ := id F
  have hbA : ¬ lawA s b := fun q => absurd q (by unfold lawA; omega)
  obtain ⟨kr, ks, kb, x1, y1, x2, y2, x3, y3, x4, y4, Da1, Sa1, Qa1, Da2, Sa2, Qa2, Da3, Sa3, Qa3, Da4, Sa4, Qa4⟩ := g
  obtain ⟨X0, W0, V0, A0, B1, K0, Z, Y0, Y1, u, hu, hX0, hW0, hV0, hA0, hK0, hqX0, hmW0, hy0, hy1, hTie0, hM⟩ := hMs
  obtain ⟨ht, hT8⟩ := ht
  have hg : ((kr = [26] ∧ ks = [27]) ∨ (kr = [27] ∧ ks = [26])) ∧ (0 ≤ kb ∧ kb ≤ 3) ∧ (0 ≤ x1 ∧ x1 ≤ 12) ∧ (0 ≤ y1 ∧ y1 ≤ 14) ∧ (0 ≤ x2 ∧ x2 ≤ 12) ∧ (0 ≤ y2 ∧ y2 ≤ 14) ∧ (0 ≤ x3 ∧ x3 ≤ 12) ∧ (0 ≤ y3 ∧ y3 ≤ 14) ∧ (0 ≤ x4 ∧ x4 ≤ 12) ∧ (0 ≤ y4 ∧ y4 ≤ 14) ∧ ivP 12 (-2) 11 Da1 ∧ ivP 12 (-2147483648) 2147483647 Sa1 ∧ ivP 48 (-2147483648) 2147483647 Qa1 ∧ ivP 12 (-2) 11 Da2 ∧ ivP 12 (-2147483648) 2147483647 Sa2 ∧ ivP 48 (-2147483648) 2147483647 Qa2 ∧ ivP 12 (-2) 11 Da3 ∧ ivP 12 (-2147483648) 2147483647 Sa3 ∧ ivP 48 (-2147483648) 2147483647 Qa3 ∧ ivP 12 (-2) 11 Da4 ∧ ivP 12 (-2147483648) 2147483647 Sa4 ∧ ivP 48 (-2147483648) 2147483647 Qa4 := hg
  obtain ⟨hkk, hkb, hx1, hy1_, hx2, hy2_, hx3, hy3_, hx4, hy4_, hDa1, hSa1, hQa1, hDa2, hSa2, hQa2, hDa3, hSa3, hQa3, hDa4, hSa4, hQa4⟩ := hg
  have hC : TH (eC l G k tC aX aV) (tbC (dayD (.inl (0, 18))) (dayD (.inl (0, 18))) (riverD (.inl (x1, x1)) (.inl (y1, y1)) (.inl (0, 4)) 31 33 35 39 43 47) (riverD (.inl (x2, x2)) (.inl (y2, y2)) (.inl (0, 4)) 32 34 36 40 44 48) (rcD (.inl (t, t)) (.inr kr) (.inr ks) (.inl (kb, kb))) (rdD (.inl (0, 400)) (.inl (0, 400)) (.inl (0, 4000)) (.inl (0, 1)) (.inr [26, 27])) (xB 400 T) A14F A14F A4F A4F A14F A14F (riverD (.inl (x3, x3)) (.inl (y3, y3)) (.inl (0, 4)) 3 8 3 41 45 49) (riverD (.inl (x4, x4)) (.inl (y4, y4)) (.inl (0, 4)) 3 8 3 42 46 50) (xD 12 Da1) (xD 12 Da2) (xD 12 Da3) (xD 12 Da4) (xD 12 Sa1) (xD 12 Sa2) (xD 12 Sa3) (xD 12 Sa4) (xD 48 Qa1) (xD 48 Qa2) (xD 48 Qa3) (xD 48 Qa4)) H := hC
  have hTie : (kr = [26] → rowT x1 Da1 Sa1 Qa1 Z) ∧ (kr = [27] → rowT x2 Da2 Sa2 Qa2 Z) ∧ gI K0 0 = kb % 2 ∧ gI K0 1 = kb / 2 ∧ (kb % 2 = 1 → rowT x3 Da3 Sa3 Qa3 Y0) ∧ (kb / 2 = 1 → rowT x4 Da4 Sa4 Qa4 Y1) := hTie0
  clear hTie0
  have hk1 : (i + 1).toInt = i.toInt + 1 := by
    have h1 := i_add (x := i) (y := 1) (by rw [show (1 : Int32).toInt = 1 by decide]; omega) (by rw [show (1 : Int32).toInt = 1 by decide]; omega)
    rw [show (1 : Int32).toInt = 1 by decide] at h1
    exact h1
  refine lv_aload_n hx hb dL_law_1130 rfl (lv_at hl 2 rfl) ?_
  refine lv_aload_n hx hb dL_law_1131 rfl (lv_at hl 3 rfl) ?_
  refine lv_iload_n hx hb dL_law_1132 rfl (lv_at hl 0 rfl) ?_
  refine lv_iconst (v := 1) hx hb dL_law_1133 (by decide) ?_
  refine lv_iadd hx hb dL_law_1134 ?_
  refine va_sld hx hb hX hbl hbA hS (vinT (by rw [hk1]; omega)) dL_law_1135 ?_
  refine lv_topi (fun a1_0 ea1_0 => ?_)
  have hkr : ∀ t ∈ kr, t ∈ [26, 27] := by rcases hkk with ⟨h9_, -⟩ | ⟨h9_, -⟩ <;> rw [h9_] <;> decide
  have hks : ∀ t ∈ ks, t ∈ [26, 27] := by rcases hkk with ⟨-, h9_⟩ | ⟨-, h9_⟩ <;> rw [h9_] <;> decide
  refine lawVl (E := (eC l G k tC aX aV)) (b := h0) (As := [.int a1_0]) (rest := []) F hK hN hOc hTc (c_X6_gone (eC l G k tC aX aV) (rdD (.inl (0, 400)) (.inl (0, 400)) (.inl (0, 4000)) (.inl (0, 1)) (.inr [26, 27])) (xB 400 T) (kb, kb) (x1, x1) (y1, y1) (x2, x2) (y2, y2) (x3, x3) (y3, y3) (x4, x4) (y4, y4) kr ks (fun f_ => f_ = Da1) (fun f_ => f_ = Da2) (fun f_ => f_ = Da3) (fun f_ => f_ = Da4) (fun f_ => f_ = Sa1) (fun f_ => f_ = Sa2) (fun f_ => f_ = Sa3) (fun f_ => f_ = Sa4) (fun f_ => f_ = Qa1) (fun f_ => f_ = Qa2) (fun f_ => f_ = Qa3) (fun f_ => f_ = Qa4) t h0 a1_0 (List.mem_singleton.mpr hh0) (by omega) (by show 0 ≤ x1 ∧ x1 ≤ 12; omega) (by show 0 ≤ y1 ∧ y1 ≤ 14; omega) (by show 0 ≤ x2 ∧ x2 ≤ 12; omega) (by show 0 ≤ y2 ∧ y2 ≤ 14; omega) (by show 0 ≤ x3 ∧ x3 ≤ 12; omega) (by show 0 ≤ y3 ∧ y3 ≤ 14; omega) (by show 0 ≤ x4 ∧ x4 ≤ 12; omega) (by show 0 ≤ y4 ∧ y4 ≤ 14; omega) hkr hks (fun f_ h_ => ivX hDa1 h_) (fun f_ h_ => ivX hDa2 h_) (fun f_ h_ => ivX hDa3 h_) (fun f_ h_ => ivX hDa4 h_) (fun f_ h_ => ivX hSa1 h_) (fun f_ h_ => ivX hSa2 h_) (fun f_ h_ => ivX hSa3 h_) (fun f_ h_ => ivX hSa4 h_) (fun f_ h_ => ivX hQa1 h_) (fun f_ h_ => ivX hQa2 h_) (fun f_ h_ => ivX hQa3 h_) (fun f_ h_ => ivX hQa4 h_)) mv_X6_gone wd_50_1 ⟨Nat.le_of_ble_eq_true rfl, Nat.le_of_ble_eq_true rfl⟩ ⟨Nat.le_of_ble_eq_true rfl, Nat.le_of_ble_eq_true rfl⟩ hC hS (tRecv hK hC (by rw [show eT (eC l G k tC aX aV) h0 = 28 from hh0]; rfl) clX6) rfl hl.1 (Nat.le_of_ble_eq_true rfl) dL_law_1136 (fun v0 H1 locs hq hk_ hS => ?_)
  have hN_ := hq
  have hM := keptM hdis hM hk_
  have hC : TH (eC l G k tC aX aV) (tbC (dayD (.inl (0, 18))) (dayD (.inl (0, 18))) (riverD (.inl (x1, x1)) (.inl (y1, y1)) (.inl (0, 4)) 31 33 35 39 43 47) (riverD (.inl (x2, x2)) (.inl (y2, y2)) (.inl (0, 4)) 32 34 36 40 44 48) (rcD (.inl (t, t)) (.inr kr) (.inr ks) (.inl (kb, kb))) (rdD (.inl (0, 400)) (.inl (0, 400)) (.inl (0, 4000)) (.inl (0, 1)) (.inr [26, 27])) (xB 400 T) A14F A14F A4F A4F A14F A14F (riverD (.inl (x3, x3)) (.inl (y3, y3)) (.inl (0, 4)) 3 8 3 41 45 49) (riverD (.inl (x4, x4)) (.inl (y4, y4)) (.inl (0, 4)) 3 8 3 42 46 50) (xD 12 Da1) (xD 12 Da2) (xD 12 Da3) (xD 12 Da4) (xD 12 Sa1) (xD 12 Sa2) (xD 12 Sa3) (xD 12 Sa4) (xD 48 Qa1) (xD 48 Qa2) (xD 48 Qa3) (xD 48 Qa4)) H1 := hN_
  refine lv_pop2_2 hx hb dL_law_1139 rfl ?_
  refine lv_aload_n hx hb dL_law_1140 rfl (lv_at hl 1 rfl) ?_
  refine lv_aload_n hx hb dL_law_1141 rfl (lv_at hl 3 rfl) ?_
  refine lv_iload_n hx hb dL_law_1142 rfl (lv_at hl 0 rfl) ?_
  refine lv_iconst (v := 1) hx hb dL_law_1143 (by decide) ?_
  refine lv_iadd hx hb dL_law_1144 ?_
  refine va_sld hx hb hX hbl hbA hS (vinT (by rw [hk1]; omega)) dL_law_1145 ?_
  refine lv_topi (fun a1_1 ea1_1 => ?_)
  obtain rfl : a1_0 = a1_1 := ea1_0.trans ea1_1.symm
  refine lawVl (E := (eM l G k tM aX aV)) (b := g0) (As := [.int a1_0]) (rest := []) F hK hN hOm hTm (c_X7_gone (eM l G k tM aX aV) (xD 6600 W0) (xD 1320 V0) (xD 660 A0) (xD 660 B1) m_second (xB 400 T) (xZ 2 K0) (u, u) (0, 18) (((-2147483648), 2147483647)) (t, t) (((-2147483648), 2147483647)) (0, 4000) (((-2147483648), 2147483647)) (((-2147483648), 2147483647)) (0, 1) X0 g0 a1_0 (List.mem_singleton.mpr hg0) hX0) mv_X7_gone wd_50_16 ⟨Nat.le_of_ble_eq_true rfl, Nat.le_of_ble_eq_true rfl⟩ ⟨Nat.le_of_ble_eq_true rfl, Nat.le_of_ble_eq_true rfl⟩ hM hS (tRecv hK hM (by rw [show eT (eM l G k tM aX aV) g0 = 24 from hg0]; rfl) clX7) rfl hl.1 (Nat.le_of_ble_eq_true rfl) dL_law_1146 (fun v1 H1 locs hq hk_ hS => ?_)
  have hN_ := hq
  have hC := keptC hdis hC hk_
  have hM : TH (eM l G k tM aX aV) (tbM (mD (.inl (t, t)) (.inl (-2147483648, 2147483647)) (.inl (-2147483648, 2147483647)) (.inl (u, u)) (.inl (0, 18)) (.inl (-2147483648, 2147483647)) (.inl (0, 4000)) (.inl (-2147483648, 2147483647)) (.inl (0, 1))) (xD 660 X0) (xD 6600 W0) (xD 1320 V0) (xD 660 A0) (xD 660 B1) m_second (xB 400 T) (xZ 2 K0)) H1 := hN_
  refine lv_pop2_2 hx hb dL_law_1149 rfl ?_
  refine lv_goto (tgt := 1529) hx hb dL_law_1150 (by decide) ?_
  have hG_ : ((kr = [26] ∧ ks = [27]) ∨ (kr = [27] ∧ ks = [26])) ∧ (0 ≤ kb ∧ kb ≤ 3) ∧ (0 ≤ x1 ∧ x1 ≤ 12) ∧ (0 ≤ y1 ∧ y1 ≤ 14) ∧ (0 ≤ x2 ∧ x2 ≤ 12) ∧ (0 ≤ y2 ∧ y2 ≤ 14) ∧ (0 ≤ x3 ∧ x3 ≤ 12) ∧ (0 ≤ y3 ∧ y3 ≤ 14) ∧ (0 ≤ x4 ∧ x4 ≤ 12) ∧ (0 ≤ y4 ∧ y4 ≤ 14) ∧ ivP 12 (-2) 11 Da1 ∧ ivP 12 (-2147483648) 2147483647 Sa1 ∧ ivP 48 (-2147483648) 2147483647 Qa1 ∧ ivP 12 (-2) 11 Da2 ∧ ivP 12 (-2147483648) 2147483647 Sa2 ∧ ivP 48 (-2147483648) 2147483647 Qa2 ∧ ivP 12 (-2) 11 Da3 ∧ ivP 12 (-2147483648) 2147483647 Sa3 ∧ ivP 48 (-2147483648) 2147483647 Qa3 ∧ ivP 12 (-2) 11 Da4 ∧ ivP 12 (-2147483648) 2147483647 Sa4 ∧ ivP 48 (-2147483648) 2147483647 Qa4 := ⟨hkk, (by omega), (by omega), (by omega), (by omega), (by omega), (by omega), (by omega), (by omega), (by omega), hDa1, hSa1, hQa1, hDa2, hSa2, hQa2, hDa3, hSa3, hQa3, hDa4, hSa4, hQa4⟩
  exact hend t T (kr, ks, kb, x1, y1, x2, y2, x3, y3, x4, y4, Da1, Sa1, Qa1, Da2, Sa2, Qa2, Da3, Sa3, Qa3, Da4, Sa4, Qa4) _ _ ⟨(by omega), hT8⟩ hG_ hC ⟨X0, W0, V0, A0, B1, K0, Z, Y0, Y1, u, (by omega), hX0, hW0, hV0, hA0, hK0, hqX0, hmW0, hy0, hy1, hTie, hM⟩ hS
set_option maxHeartbeats 4000000 in
set_option maxRecDepth 100000 in
theorem law_c31 {pg_ : Program} {l : Launch} {ev_ : Env} {s : State} {mi_ : MethodId} {below_ : List Frame} {meth : Method} {cd_ : Code} {H : Heap} {locs : List Loc} {ls : Array Slot} {b L : Nat} {xs : Nat → Int32} {G : va_G} {k : Nat → ClassId} {tC tM aX aV : Nat → Nat} {h0 g0 : Nat} {i : Int32} {t : Int} {T : RwF} {g : Gs} (B0 : LB pg_ s mi_ meth cd_ b L xs l G k tC tM aX aV h0 g0) (hi : 0 ≤ i.toInt ∧ i.toInt + 6 ≤ L) (ht : (0 ≤ t ∧ t ≤ 400) ∧ ivP 400 (-128) 127 T) (hg : Gok g) (hC : Cs (eC l G k tC aX aV) t T g H) (hMs : Ms (eM l G k tM aX aV) t T g H) (hS : va_S (lawA s) s.heap H locs) (hl : lv_has ls 4 [(3, .int i), (2, .ref g0), (1, .ref h0), (0, .ref b)]) (hend : ∀ (t : Int) (T : RwF) (g : Gs) (H : Heap) (locs : List Loc), ((0 ≤ t ∧ t ≤ 400) ∧ ivP 400 (-128) 127 T) → Gok g → Cs (eC l G k tC aX aV) t T g H → Ms (eM l G k tM aX aV) t T g H → va_S (lawA s) s.heap H locs → W pg_ l ev_ room_1 s mi_ #[Value.ref b] below_ meth cd_ H locs 294 18964 (lw_Z below_ #[Value.ref b] s) (F0 mi_ 1529 ls [])) : W pg_ l ev_ room_1 s mi_ #[Value.ref b] below_ meth cd_ H locs 294 18964 (lw_Z below_ #[Value.ref b] s) (F0 mi_ 1153 ls []) := by
  obtain ⟨F, hK, hN, hOc, hOm, hX, hbl, hL, hTc, hTm, hdis, hh0, hg0⟩ := id B0
  obtain ⟨hx, hb, hr, hml, hown, hlk, hw, -⟩ := id F
  have hbA : ¬ lawA s b := fun q => absurd q (by unfold lawA; omega)
  obtain ⟨kr, ks, kb, x1, y1, x2, y2, x3, y3, x4, y4, Da1, Sa1, Qa1, Da2, Sa2, Qa2, Da3, Sa3, Qa3, Da4, Sa4, Qa4⟩ := g
  obtain ⟨X0, W0, V0, A0, B1, K0, Z, Y0, Y1, u, hu, hX0, hW0, hV0, hA0, hK0, hqX0, hmW0, hy0, hy1, hTie0, hM⟩ := hMs
  obtain ⟨ht, hT8⟩ := ht
  have hg : ((kr = [26] ∧ ks = [27]) ∨ (kr = [27] ∧ ks = [26])) ∧ (0 ≤ kb ∧ kb ≤ 3) ∧ (0 ≤ x1 ∧ x1 ≤ 12) ∧ (0 ≤ y1 ∧ y1 ≤ 14) ∧ (0 ≤ x2 ∧ x2 ≤ 12) ∧ (0 ≤ y2 ∧ y2 ≤ 14) ∧ (0 ≤ x3 ∧ x3 ≤ 12) ∧ (0 ≤ y3 ∧ y3 ≤ 14) ∧ (0 ≤ x4 ∧ x4 ≤ 12) ∧ (0 ≤ y4 ∧ y4 ≤ 14) ∧ ivP 12 (-2) 11 Da1 ∧ ivP 12 (-2147483648) 2147483647 Sa1 ∧ ivP 48 (-2147483648) 2147483647 Qa1 ∧ ivP 12 (-2) 11 Da2 ∧ ivP 12 (-2147483648) 2147483647 Sa2 ∧ ivP 48 (-2147483648) 2147483647 Qa2 ∧ ivP 12 (-2) 11 Da3 ∧ ivP 12 (-2147483648) 2147483647 Sa3 ∧ ivP 48 (-2147483648) 2147483647 Qa3 ∧ ivP 12 (-2) 11 Da4 ∧ ivP 12 (-2147483648) 2147483647 Sa4 ∧ ivP 48 (-2147483648) 2147483647 Qa4 := hg
  obtain ⟨hkk, hkb, hx1, hy1_, hx2, hy2_, hx3, hy3_, hx4, hy4_, hDa1, hSa1, hQa1, hDa2, hSa2, hQa2, hDa3, hSa3, hQa3, hDa4, hSa4, hQa4⟩ := hg
  have hC : TH (eC l G k tC aX aV) (tbC (dayD (.inl (0, 18))) (dayD (.inl (0, 18))) (riverD (.inl (x1, x1)) (.inl (y1, y1)) (.inl (0, 4)) 31 33 35 39 43 47) (riverD (.inl (x2, x2)) (.inl (y2, y2)) (.inl (0, 4)) 32 34 36 40 44 48) (rcD (.inl (t, t)) (.inr kr) (.inr ks) (.inl (kb, kb))) (rdD (.inl (0, 400)) (.inl (0, 400)) (.inl (0, 4000)) (.inl (0, 1)) (.inr [26, 27])) (xB 400 T) A14F A14F A4F A4F A14F A14F (riverD (.inl (x3, x3)) (.inl (y3, y3)) (.inl (0, 4)) 3 8 3 41 45 49) (riverD (.inl (x4, x4)) (.inl (y4, y4)) (.inl (0, 4)) 3 8 3 42 46 50) (xD 12 Da1) (xD 12 Da2) (xD 12 Da3) (xD 12 Da4) (xD 12 Sa1) (xD 12 Sa2) (xD 12 Sa3) (xD 12 Sa4) (xD 48 Qa1) (xD 48 Qa2) (xD 48 Qa3) (xD 48 Qa4)) H := hC
  have hTie : (kr = [26] → rowT x1 Da1 Sa1 Qa1 Z) ∧ (kr = [27] → rowT x2 Da2 Sa2 Qa2 Z) ∧ gI K0 0 = kb % 2 ∧ gI K0 1 = kb / 2 ∧ (kb % 2 = 1 → rowT x3 Da3 Sa3 Qa3 Y0) ∧ (kb / 2 = 1 → rowT x4 Da4 Sa4 Qa4 Y1) := hTie0
  clear hTie0
  have hk1 : (i + 1).toInt = i.toInt + 1 := by
    have h1 := i_add (x := i) (y := 1) (by rw [show (1 : Int32).toInt = 1 by decide]; omega) (by rw [show (1 : Int32).toInt = 1 by decide]; omega)
    rw [show (1 : Int32).toInt = 1 by decide] at h1
    exact h1
  have hk2 : (i + 2).toInt = i.toInt + 2 := by
    have h1 := i_add (x := i) (y := 2) (by rw [show (2 : Int32).toInt = 2 by decide]; omega) (by rw [show (2 : Int32).toInt = 2 by decide]; omega)
    rw [show (2 : Int32).toInt = 2 by decide] at h1
    exact h1
  refine lv_aload_n hx hb dL_law_1153 rfl (lv_at hl 2 rfl) ?_
  refine lv_aload_n hx hb dL_law_1154 rfl (lv_at hl 3 rfl) ?_
  refine lv_iload_n hx hb dL_law_1155 rfl (lv_at hl 0 rfl) ?_
  refine lv_iconst (v := 1) hx hb dL_law_1156 (by decide) ?_
  refine lv_iadd hx hb dL_law_1157 ?_
  refine va_sld hx hb hX hbl hbA hS (vinT (by rw [hk1]; omega)) dL_law_1158 ?_
  refine lv_topi (fun a1_0 ea1_0 => ?_)
  refine lv_aload_n hx hb dL_law_1159 rfl (lv_at hl 3 rfl) ?_
  refine lv_iload_n hx hb dL_law_1160 rfl (lv_at hl 0 rfl) ?_
  refine lv_iconst (v := 2) hx hb dL_law_1161 (by decide) ?_
  refine lv_iadd hx hb dL_law_1162 ?_
  refine va_sld hx hb hX hbl hbA hS (vinT (by rw [hk2]; omega)) dL_law_1163 ?_
  refine lv_topi (fun a2_0 ea2_0 => ?_)
  have hkr : ∀ t ∈ kr, t ∈ [26, 27] := by rcases hkk with ⟨h9_, -⟩ | ⟨h9_, -⟩ <;> rw [h9_] <;> decide
  have hks : ∀ t ∈ ks, t ∈ [26, 27] := by rcases hkk with ⟨-, h9_⟩ | ⟨-, h9_⟩ <;> rw [h9_] <;> decide
  refine lawVi (E := (eC l G k tC aX aV)) (b := h0) (As := [.int a1_0, .int a2_0]) (rest := []) F hK hN hOc hTc (c_X6_coming (eC l G k tC aX aV) (rdD (.inl (0, 400)) (.inl (0, 400)) (.inl (0, 4000)) (.inl (0, 1)) (.inr [26, 27])) (xB 400 T) (kb, kb) (x1, x1) (y1, y1) (x2, x2) (y2, y2) (x3, x3) (y3, y3) (x4, x4) (y4, y4) kr ks (fun f_ => f_ = Da1) (fun f_ => f_ = Da2) (fun f_ => f_ = Da3) (fun f_ => f_ = Da4) (fun f_ => f_ = Sa1) (fun f_ => f_ = Sa2) (fun f_ => f_ = Sa3) (fun f_ => f_ = Sa4) (fun f_ => f_ = Qa1) (fun f_ => f_ = Qa2) (fun f_ => f_ = Qa3) (fun f_ => f_ = Qa4) t h0 a1_0 a2_0 (List.mem_singleton.mpr hh0) (by omega) (by show 0 ≤ x1 ∧ x1 ≤ 12; omega) (by show 0 ≤ y1 ∧ y1 ≤ 14; omega) (by show 0 ≤ x2 ∧ x2 ≤ 12; omega) (by show 0 ≤ y2 ∧ y2 ≤ 14; omega) (by show 0 ≤ x3 ∧ x3 ≤ 12; omega) (by show 0 ≤ y3 ∧ y3 ≤ 14; omega) (by show 0 ≤ x4 ∧ x4 ≤ 12; omega) (by show 0 ≤ y4 ∧ y4 ≤ 14; omega) hkr hks (fun f_ h_ => ivX hDa1 h_) (fun f_ h_ => ivX hDa2 h_) (fun f_ h_ => ivX hDa3 h_) (fun f_ h_ => ivX hDa4 h_) (fun f_ h_ => ivX hSa1 h_) (fun f_ h_ => ivX hSa2 h_) (fun f_ h_ => ivX hSa3 h_) (fun f_ h_ => ivX hSa4 h_) (fun f_ h_ => ivX hQa1 h_) (fun f_ h_ => ivX hQa2 h_) (fun f_ h_ => ivX hQa3 h_) (fun f_ h_ => ivX hQa4 h_)) mv_X6_coming wd_51_5 ⟨Nat.le_of_ble_eq_true rfl, Nat.le_of_ble_eq_true rfl⟩ ⟨Nat.le_of_ble_eq_true rfl, Nat.le_of_ble_eq_true rfl⟩ hC hS (tRecv hK hC (by rw [show eT (eC l G k tC aX aV) h0 = 28 from hh0]; rfl) clX6) rfl hl.1 (Nat.le_of_ble_eq_true rfl) dL_law_1164 (fun v0 H1 locs hq hk_ hS => ?_)
  obtain ⟨f0_0, hN_⟩ := hq
  have hM := keptM hdis hM hk_
  have hC : TH (eC l G k tC aX aV) (tbC (dayD (.inl (0, 18))) (dayD (.inl (0, 18))) (riverD (.inl (x1, x1)) (.inl (y1, y1)) (.inl (0, 4)) 31 33 35 39 43 47) (riverD (.inl (x2, x2)) (.inl (y2, y2)) (.inl (0, 4)) 32 34 36 40 44 48) (rcD (.inl (t, t)) (.inr kr) (.inr ks) (.inl (kb, kb))) (rdD (.inl (0, 400)) (.inl (0, 400)) (.inl (0, 4000)) (.inl (0, 1)) (.inr [26, 27])) (xB 400 T) A14F A14F A4F A4F A14F A14F (riverD (.inl (x3, x3)) (.inl (y3, y3)) (.inl (0, 4)) 3 8 3 41 45 49) (riverD (.inl (x4, x4)) (.inl (y4, y4)) (.inl (0, 4)) 3 8 3 42 46 50) (xD 12 Da1) (xD 12 Da2) (xD 12 Da3) (xD 12 Da4) (xD 12 Sa1) (xD 12 Sa2) (xD 12 Sa3) (xD 12 Sa4) (xD 48 Qa1) (xD 48 Qa2) (xD 48 Qa3) (xD 48 Qa4)) H1 := hN_
  refine lv_pop hx hb dL_law_1167 rfl ?_
  refine lv_aload_n hx hb dL_law_1168 rfl (lv_at hl 1 rfl) ?_
  refine lv_aload_n hx hb dL_law_1169 rfl (lv_at hl 3 rfl) ?_
  refine lv_iload_n hx hb dL_law_1170 rfl (lv_at hl 0 rfl) ?_
  refine lv_iconst (v := 1) hx hb dL_law_1171 (by decide) ?_
  refine lv_iadd hx hb dL_law_1172 ?_
  refine va_sld hx hb hX hbl hbA hS (vinT (by rw [hk1]; omega)) dL_law_1173 ?_
  refine lv_topi (fun a1_1 ea1_1 => ?_)
  obtain rfl : a1_0 = a1_1 := ea1_0.trans ea1_1.symm
  refine lv_aload_n hx hb dL_law_1174 rfl (lv_at hl 3 rfl) ?_
  refine lv_iload_n hx hb dL_law_1175 rfl (lv_at hl 0 rfl) ?_
  refine lv_iconst (v := 2) hx hb dL_law_1176 (by decide) ?_
  refine lv_iadd hx hb dL_law_1177 ?_
  refine va_sld hx hb hX hbl hbA hS (vinT (by rw [hk2]; omega)) dL_law_1178 ?_
  refine lv_topi (fun a2_1 ea2_1 => ?_)
  obtain rfl : a2_0 = a2_1 := ea2_0.trans ea2_1.symm
  refine lawVi (E := (eM l G k tM aX aV)) (b := g0) (As := [.int a1_0, .int a2_0]) (rest := []) F hK hN hOm hTm (c_X7_coming (eM l G k tM aX aV) (xD 6600 W0) (xD 1320 V0) (xD 660 A0) (xD 660 B1) m_second (xB 400 T) (xZ 2 K0) (u, u) (0, 18) (((-2147483648), 2147483647)) (t, t) (((-2147483648), 2147483647)) (0, 4000) (((-2147483648), 2147483647)) (((-2147483648), 2147483647)) (0, 1) X0 g0 a1_0 a2_0 (List.mem_singleton.mpr hg0) hX0) mv_X7_coming wd_51_11 ⟨Nat.le_of_ble_eq_true rfl, Nat.le_of_ble_eq_true rfl⟩ ⟨Nat.le_of_ble_eq_true rfl, Nat.le_of_ble_eq_true rfl⟩ hM hS (tRecv hK hM (by rw [show eT (eM l G k tM aX aV) g0 = 24 from hg0]; rfl) clX7) rfl hl.1 (Nat.le_of_ble_eq_true rfl) dL_law_1179 (fun v1 H1 locs hq hk_ hS => ?_)
  obtain ⟨f1_0, hN_⟩ := hq
  have hC := keptC hdis hC hk_
  have hM : TH (eM l G k tM aX aV) (tbM (mD (.inl (t, t)) (.inl (-2147483648, 2147483647)) (.inl (-2147483648, 2147483647)) (.inl (u, u)) (.inl (0, 18)) (.inl (-2147483648, 2147483647)) (.inl (0, 4000)) (.inl (-2147483648, 2147483647)) (.inl (0, 1))) (xD 660 X0) (xD 6600 W0) (xD 1320 V0) (xD 660 A0) (xD 660 B1) m_second (xB 400 T) (xZ 2 K0)) H1 := hN_
  refine lv_pop hx hb dL_law_1182 rfl ?_
  refine lv_goto (tgt := 1529) hx hb dL_law_1183 (by decide) ?_
  have hG_ : ((kr = [26] ∧ ks = [27]) ∨ (kr = [27] ∧ ks = [26])) ∧ (0 ≤ kb ∧ kb ≤ 3) ∧ (0 ≤ x1 ∧ x1 ≤ 12) ∧ (0 ≤ y1 ∧ y1 ≤ 14) ∧ (0 ≤ x2 ∧ x2 ≤ 12) ∧ (0 ≤ y2 ∧ y2 ≤ 14) ∧ (0 ≤ x3 ∧ x3 ≤ 12) ∧ (0 ≤ y3 ∧ y3 ≤ 14) ∧ (0 ≤ x4 ∧ x4 ≤ 12) ∧ (0 ≤ y4 ∧ y4 ≤ 14) ∧ ivP 12 (-2) 11 Da1 ∧ ivP 12 (-2147483648) 2147483647 Sa1 ∧ ivP 48 (-2147483648) 2147483647 Qa1 ∧ ivP 12 (-2) 11 Da2 ∧ ivP 12 (-2147483648) 2147483647 Sa2 ∧ ivP 48 (-2147483648) 2147483647 Qa2 ∧ ivP 12 (-2) 11 Da3 ∧ ivP 12 (-2147483648) 2147483647 Sa3 ∧ ivP 48 (-2147483648) 2147483647 Qa3 ∧ ivP 12 (-2) 11 Da4 ∧ ivP 12 (-2147483648) 2147483647 Sa4 ∧ ivP 48 (-2147483648) 2147483647 Qa4 := ⟨hkk, (by omega), (by omega), (by omega), (by omega), (by omega), (by omega), (by omega), (by omega), (by omega), hDa1, hSa1, hQa1, hDa2, hSa2, hQa2, hDa3, hSa3, hQa3, hDa4, hSa4, hQa4⟩
  exact hend t T (kr, ks, kb, x1, y1, x2, y2, x3, y3, x4, y4, Da1, Sa1, Qa1, Da2, Sa2, Qa2, Da3, Sa3, Qa3, Da4, Sa4, Qa4) _ _ ⟨(by omega), hT8⟩ hG_ hC ⟨X0, W0, V0, A0, B1, K0, Z, Y0, Y1, u, (by omega), hX0, hW0, hV0, hA0, hK0, hqX0, hmW0, hy0, hy1, hTie, hM⟩ hS
set_option maxHeartbeats 4000000 in
set_option maxRecDepth 100000 in
theorem law_c32 {pg_ : Program} {l : Launch} {ev_ : Env} {s : State} {mi_ : MethodId} {below_ : List Frame} {meth : Method} {cd_ : Code} {H : Heap} {locs : List Loc} {ls : Array Slot} {b L : Nat} {xs : Nat → Int32} {G : va_G} {k : Nat → ClassId} {tC tM aX aV : Nat → Nat} {h0 g0 : Nat} {i : Int32} {t : Int} {T : RwF} {g : Gs} (B0 : LB pg_ s mi_ meth cd_ b L xs l G k tC tM aX aV h0 g0) (hi : 0 ≤ i.toInt ∧ i.toInt + 6 ≤ L) (ht : (0 ≤ t ∧ t ≤ 400) ∧ ivP 400 (-128) 127 T) (hg : Gok g) (hC : Cs (eC l G k tC aX aV) t T g H) (hMs : Ms (eM l G k tM aX aV) t T g H) (hS : va_S (lawA s) s.heap H locs) (hl : lv_has ls 4 [(3, .int i), (2, .ref g0), (1, .ref h0), (0, .ref b)]) (hend : ∀ (t : Int) (T : RwF) (g : Gs) (H : Heap) (locs : List Loc), ((0 ≤ t ∧ t ≤ 400) ∧ ivP 400 (-128) 127 T) → Gok g → Cs (eC l G k tC aX aV) t T g H → Ms (eM l G k tM aX aV) t T g H → va_S (lawA s) s.heap H locs → W pg_ l ev_ room_1 s mi_ #[Value.ref b] below_ meth cd_ H locs 294 18964 (lw_Z below_ #[Value.ref b] s) (F0 mi_ 1529 ls [])) : W pg_ l ev_ room_1 s mi_ #[Value.ref b] below_ meth cd_ H locs 294 18964 (lw_Z below_ #[Value.ref b] s) (F0 mi_ 1186 ls []) := by
  obtain ⟨F, hK, hN, hOc, hOm, hX, hbl, hL, hTc, hTm, hdis, hh0, hg0⟩ := id B0
  obtain ⟨hx, hb, hr, hml, hown, hlk, hw, -⟩ := id F
  have hbA : ¬ lawA s b := fun q => absurd q (by unfold lawA; omega)
  obtain ⟨kr, ks, kb, x1, y1, x2, y2, x3, y3, x4, y4, Da1, Sa1, Qa1, Da2, Sa2, Qa2, Da3, Sa3, Qa3, Da4, Sa4, Qa4⟩ := g
  obtain ⟨X0, W0, V0, A0, B1, K0, Z, Y0, Y1, u, hu, hX0, hW0, hV0, hA0, hK0, hqX0, hmW0, hy0, hy1, hTie0, hM⟩ := hMs
  obtain ⟨ht, hT8⟩ := ht
  have hg : ((kr = [26] ∧ ks = [27]) ∨ (kr = [27] ∧ ks = [26])) ∧ (0 ≤ kb ∧ kb ≤ 3) ∧ (0 ≤ x1 ∧ x1 ≤ 12) ∧ (0 ≤ y1 ∧ y1 ≤ 14) ∧ (0 ≤ x2 ∧ x2 ≤ 12) ∧ (0 ≤ y2 ∧ y2 ≤ 14) ∧ (0 ≤ x3 ∧ x3 ≤ 12) ∧ (0 ≤ y3 ∧ y3 ≤ 14) ∧ (0 ≤ x4 ∧ x4 ≤ 12) ∧ (0 ≤ y4 ∧ y4 ≤ 14) ∧ ivP 12 (-2) 11 Da1 ∧ ivP 12 (-2147483648) 2147483647 Sa1 ∧ ivP 48 (-2147483648) 2147483647 Qa1 ∧ ivP 12 (-2) 11 Da2 ∧ ivP 12 (-2147483648) 2147483647 Sa2 ∧ ivP 48 (-2147483648) 2147483647 Qa2 ∧ ivP 12 (-2) 11 Da3 ∧ ivP 12 (-2147483648) 2147483647 Sa3 ∧ ivP 48 (-2147483648) 2147483647 Qa3 ∧ ivP 12 (-2) 11 Da4 ∧ ivP 12 (-2147483648) 2147483647 Sa4 ∧ ivP 48 (-2147483648) 2147483647 Qa4 := hg
  obtain ⟨hkk, hkb, hx1, hy1_, hx2, hy2_, hx3, hy3_, hx4, hy4_, hDa1, hSa1, hQa1, hDa2, hSa2, hQa2, hDa3, hSa3, hQa3, hDa4, hSa4, hQa4⟩ := hg
  have hC : TH (eC l G k tC aX aV) (tbC (dayD (.inl (0, 18))) (dayD (.inl (0, 18))) (riverD (.inl (x1, x1)) (.inl (y1, y1)) (.inl (0, 4)) 31 33 35 39 43 47) (riverD (.inl (x2, x2)) (.inl (y2, y2)) (.inl (0, 4)) 32 34 36 40 44 48) (rcD (.inl (t, t)) (.inr kr) (.inr ks) (.inl (kb, kb))) (rdD (.inl (0, 400)) (.inl (0, 400)) (.inl (0, 4000)) (.inl (0, 1)) (.inr [26, 27])) (xB 400 T) A14F A14F A4F A4F A14F A14F (riverD (.inl (x3, x3)) (.inl (y3, y3)) (.inl (0, 4)) 3 8 3 41 45 49) (riverD (.inl (x4, x4)) (.inl (y4, y4)) (.inl (0, 4)) 3 8 3 42 46 50) (xD 12 Da1) (xD 12 Da2) (xD 12 Da3) (xD 12 Da4) (xD 12 Sa1) (xD 12 Sa2) (xD 12 Sa3) (xD 12 Sa4) (xD 48 Qa1) (xD 48 Qa2) (xD 48 Qa3) (xD 48 Qa4)) H := hC
  have hTie : (kr = [26] → rowT x1 Da1 Sa1 Qa1 Z) ∧ (kr = [27] → rowT x2 Da2 Sa2 Qa2 Z) ∧ gI K0 0 = kb % 2 ∧ gI K0 1 = kb / 2 ∧ (kb % 2 = 1 → rowT x3 Da3 Sa3 Qa3 Y0) ∧ (kb / 2 = 1 → rowT x4 Da4 Sa4 Qa4 Y1) := hTie0
  clear hTie0
  have hk1 : (i + 1).toInt = i.toInt + 1 := by
    have h1 := i_add (x := i) (y := 1) (by rw [show (1 : Int32).toInt = 1 by decide]; omega) (by rw [show (1 : Int32).toInt = 1 by decide]; omega)
    rw [show (1 : Int32).toInt = 1 by decide] at h1
    exact h1
  refine lv_aload_n hx hb dL_law_1186 rfl (lv_at hl 2 rfl) ?_
  refine lv_aload_n hx hb dL_law_1187 rfl (lv_at hl 3 rfl) ?_
  refine lv_iload_n hx hb dL_law_1188 rfl (lv_at hl 0 rfl) ?_
  refine lv_iconst (v := 1) hx hb dL_law_1189 (by decide) ?_
  refine lv_iadd hx hb dL_law_1190 ?_
  refine va_sld hx hb hX hbl hbA hS (vinT (by rw [hk1]; omega)) dL_law_1191 ?_
  refine lv_topi (fun a1_0 ea1_0 => ?_)
  rcases hkk with ⟨rfl, rfl⟩ | ⟨rfl, rfl⟩
  · skip
    refine lawVi (E := (eC l G k tC aX aV)) (b := h0) (As := [.int a1_0]) (rest := []) F hK hN hOc hTc (c_X6_above_1 (eC l G k tC aX aV) (rdD (.inl (0, 400)) (.inl (0, 400)) (.inl (0, 4000)) (.inl (0, 1)) (.inr [26, 27])) (xB 400 T) (kb, kb) (y1, y1) (x2, x2) (y2, y2) (x3, x3) (y3, y3) (x4, x4) (y4, y4) ([27]) (fun f_ => f_ = Da2) (fun f_ => f_ = Da3) (fun f_ => f_ = Da4) (fun f_ => f_ = Sa2) (fun f_ => f_ = Sa3) (fun f_ => f_ = Sa4) (fun f_ => f_ = Qa2) (fun f_ => f_ = Qa3) (fun f_ => f_ = Qa4) x1 t Da1 Sa1 Qa1 h0 a1_0 (List.mem_singleton.mpr hh0) (by omega) (by omega) hDa1 hSa1 hQa1 (by show 0 ≤ y1 ∧ y1 ≤ 14; omega) (by show 0 ≤ x2 ∧ x2 ≤ 12; omega) (by show 0 ≤ y2 ∧ y2 ≤ 14; omega) (by show 0 ≤ x3 ∧ x3 ≤ 12; omega) (by show 0 ≤ y3 ∧ y3 ≤ 14; omega) (by show 0 ≤ x4 ∧ x4 ≤ 12; omega) (by show 0 ≤ y4 ∧ y4 ≤ 14; omega) (by decide) (fun f_ h_ => ivX hDa2 h_) (fun f_ h_ => ivX hDa3 h_) (fun f_ h_ => ivX hDa4 h_) (fun f_ h_ => ivX hSa2 h_) (fun f_ h_ => ivX hSa3 h_) (fun f_ h_ => ivX hSa4 h_) (fun f_ h_ => ivX hQa2 h_) (fun f_ h_ => ivX hQa3 h_) (fun f_ h_ => ivX hQa4 h_)) mv_X6_above wd_51_16 ⟨Nat.le_of_ble_eq_true rfl, Nat.le_of_ble_eq_true rfl⟩ ⟨Nat.le_of_ble_eq_true rfl, Nat.le_of_ble_eq_true rfl⟩ hC hS (tRecv hK hC (by rw [show eT (eC l G k tC aX aV) h0 = 28 from hh0]; rfl) clX6) rfl hl.1 (Nat.le_of_ble_eq_true rfl) dL_law_1192 (fun v0 H1 locs hq hk_ hS => ?_)
    obtain ⟨f0_0, f0_1, hN_⟩ := hq
    have hM := keptM hdis hM hk_
    have hC : TH (eC l G k tC aX aV) (tbC (dayD (.inl (0, 18))) (dayD (.inl (0, 18))) (riverD (.inl (x1, x1)) (.inl (y1, y1)) (.inl (0, 4)) 31 33 35 39 43 47) (riverD (.inl (x2, x2)) (.inl (y2, y2)) (.inl (0, 4)) 32 34 36 40 44 48) (rcD (.inl (t, t)) (.inr [26]) (.inr [27]) (.inl (kb, kb))) (rdD (.inl (0, 400)) (.inl (0, 400)) (.inl (0, 4000)) (.inl (0, 1)) (.inr [26, 27])) (xB 400 T) A14F A14F A4F A4F A14F A14F (riverD (.inl (x3, x3)) (.inl (y3, y3)) (.inl (0, 4)) 3 8 3 41 45 49) (riverD (.inl (x4, x4)) (.inl (y4, y4)) (.inl (0, 4)) 3 8 3 42 46 50) (xD 12 Da1) (xD 12 Da2) (xD 12 Da3) (xD 12 Da4) (xD 12 Sa1) (xD 12 Sa2) (xD 12 Sa3) (xD 12 Sa4) (xD 48 Qa1) (xD 48 Qa2) (xD 48 Qa3) (xD 48 Qa4)) H1 := hN_
    refine lv_aload_n hx hb dL_law_1195 rfl (lv_at hl 1 rfl) ?_
    refine lv_aload_n hx hb dL_law_1196 rfl (lv_at hl 3 rfl) ?_
    refine lv_iload_n hx hb dL_law_1197 rfl (lv_at hl 0 rfl) ?_
    refine lv_iconst (v := 1) hx hb dL_law_1198 (by decide) ?_
    refine lv_iadd hx hb dL_law_1199 ?_
    refine va_sld hx hb hX hbl hbA hS (vinT (by rw [hk1]; omega)) dL_law_1200 ?_
    refine lv_topi (fun a1_1 ea1_1 => ?_)
    obtain rfl : a1_0 = a1_1 := ea1_0.trans ea1_1.symm
    refine lawVi (E := (eM l G k tM aX aV)) (b := g0) (As := [.int a1_0]) (rest := [.int v0]) F hK hN hOm hTm (c_X7_above_x (eM l G k tM aX aV) (xD 6600 W0) (xD 1320 V0) (xD 660 A0) (xD 660 B1) m_second (xB 400 T) (xZ 2 K0) (u, u) (0, 18) (((-2147483648), 2147483647)) (t, t) (((-2147483648), 2147483647)) (0, 4000) (((-2147483648), 2147483647)) (((-2147483648), 2147483647)) (0, 1) X0 g0 a1_0 (List.mem_singleton.mpr hg0) hX0) mv_X7_above wd_51_20 ⟨Nat.le_of_ble_eq_true rfl, Nat.le_of_ble_eq_true rfl⟩ ⟨Nat.le_of_ble_eq_true rfl, Nat.le_of_ble_eq_true rfl⟩ hM hS (tRecv hK hM (by rw [show eT (eM l G k tM aX aV) g0 = 24 from hg0]; rfl) clX7) rfl hl.1 (Nat.le_of_ble_eq_true rfl) dL_law_1201 (fun v1 H1 locs hq hk_ hS => ?_)
    obtain ⟨f1_0, f1_1, hN_⟩ := hq
    have hC := keptC hdis hC hk_
    have hM : TH (eM l G k tM aX aV) (tbM (mD (.inl (t, t)) (.inl (-2147483648, 2147483647)) (.inl (-2147483648, 2147483647)) (.inl (u, u)) (.inl (0, 18)) (.inl (-2147483648, 2147483647)) (.inl (0, 4000)) (.inl (-2147483648, 2147483647)) (.inl (0, 1))) (xD 660 X0) (xD 6600 W0) (xD 1320 V0) (xD 660 A0) (xD 660 B1) m_second (xB 400 T) (xZ 2 K0)) H1 := hN_
    have hcmp : v0.toInt = v1.toInt := by
      rw [f0_1, f1_1]
      exact congrArg Int32.toInt (rowT.above (rowT.sq (hTie.1 rfl) hqX0 (by omega)) (by omega) hX0)
    refine b_eq (tgt := 1529) F dL_law_1204 (by decide) (fun _ => ?_) (fun c_ => absurd (by omega) c_)
    have hG_ : (([26] = [26] ∧ [27] = [27]) ∨ ([26] = [27] ∧ [27] = [26])) ∧ (0 ≤ kb ∧ kb ≤ 3) ∧ (0 ≤ x1 ∧ x1 ≤ 12) ∧ (0 ≤ y1 ∧ y1 ≤ 14) ∧ (0 ≤ x2 ∧ x2 ≤ 12) ∧ (0 ≤ y2 ∧ y2 ≤ 14) ∧ (0 ≤ x3 ∧ x3 ≤ 12) ∧ (0 ≤ y3 ∧ y3 ≤ 14) ∧ (0 ≤ x4 ∧ x4 ≤ 12) ∧ (0 ≤ y4 ∧ y4 ≤ 14) ∧ ivP 12 (-2) 11 Da1 ∧ ivP 12 (-2147483648) 2147483647 Sa1 ∧ ivP 48 (-2147483648) 2147483647 Qa1 ∧ ivP 12 (-2) 11 Da2 ∧ ivP 12 (-2147483648) 2147483647 Sa2 ∧ ivP 48 (-2147483648) 2147483647 Qa2 ∧ ivP 12 (-2) 11 Da3 ∧ ivP 12 (-2147483648) 2147483647 Sa3 ∧ ivP 48 (-2147483648) 2147483647 Qa3 ∧ ivP 12 (-2) 11 Da4 ∧ ivP 12 (-2147483648) 2147483647 Sa4 ∧ ivP 48 (-2147483648) 2147483647 Qa4 := ⟨(by decide), (by omega), (by omega), (by omega), (by omega), (by omega), (by omega), (by omega), (by omega), (by omega), hDa1, hSa1, hQa1, hDa2, hSa2, hQa2, hDa3, hSa3, hQa3, hDa4, hSa4, hQa4⟩
    exact hend t T ([26], [27], kb, x1, y1, x2, y2, x3, y3, x4, y4, Da1, Sa1, Qa1, Da2, Sa2, Qa2, Da3, Sa3, Qa3, Da4, Sa4, Qa4) _ _ ⟨(by omega), hT8⟩ hG_ hC ⟨X0, W0, V0, A0, B1, K0, Z, Y0, Y1, u, (by omega), hX0, hW0, hV0, hA0, hK0, hqX0, hmW0, hy0, hy1, hTie, hM⟩ hS
  · skip
    refine lawVi (E := (eC l G k tC aX aV)) (b := h0) (As := [.int a1_0]) (rest := []) F hK hN hOc hTc (c_X6_above_2 (eC l G k tC aX aV) (rdD (.inl (0, 400)) (.inl (0, 400)) (.inl (0, 4000)) (.inl (0, 1)) (.inr [26, 27])) (xB 400 T) (kb, kb) (x1, x1) (y1, y1) (y2, y2) (x3, x3) (y3, y3) (x4, x4) (y4, y4) ([26]) (fun f_ => f_ = Da1) (fun f_ => f_ = Da3) (fun f_ => f_ = Da4) (fun f_ => f_ = Sa1) (fun f_ => f_ = Sa3) (fun f_ => f_ = Sa4) (fun f_ => f_ = Qa1) (fun f_ => f_ = Qa3) (fun f_ => f_ = Qa4) x2 t Da2 Sa2 Qa2 h0 a1_0 (List.mem_singleton.mpr hh0) (by omega) (by omega) hDa2 hSa2 hQa2 (by show 0 ≤ x1 ∧ x1 ≤ 12; omega) (by show 0 ≤ y1 ∧ y1 ≤ 14; omega) (by show 0 ≤ y2 ∧ y2 ≤ 14; omega) (by show 0 ≤ x3 ∧ x3 ≤ 12; omega) (by show 0 ≤ y3 ∧ y3 ≤ 14; omega) (by show 0 ≤ x4 ∧ x4 ≤ 12; omega) (by show 0 ≤ y4 ∧ y4 ≤ 14; omega) (by decide) (fun f_ h_ => ivX hDa1 h_) (fun f_ h_ => ivX hDa3 h_) (fun f_ h_ => ivX hDa4 h_) (fun f_ h_ => ivX hSa1 h_) (fun f_ h_ => ivX hSa3 h_) (fun f_ h_ => ivX hSa4 h_) (fun f_ h_ => ivX hQa1 h_) (fun f_ h_ => ivX hQa3 h_) (fun f_ h_ => ivX hQa4 h_)) mv_X6_above wd_51_16 ⟨Nat.le_of_ble_eq_true rfl, Nat.le_of_ble_eq_true rfl⟩ ⟨Nat.le_of_ble_eq_true rfl, Nat.le_of_ble_eq_true rfl⟩ hC hS (tRecv hK hC (by rw [show eT (eC l G k tC aX aV) h0 = 28 from hh0]; rfl) clX6) rfl hl.1 (Nat.le_of_ble_eq_true rfl) dL_law_1192 (fun v0 H1 locs hq hk_ hS => ?_)
    obtain ⟨f0_0, f0_1, hN_⟩ := hq
    have hM := keptM hdis hM hk_
    have hC : TH (eC l G k tC aX aV) (tbC (dayD (.inl (0, 18))) (dayD (.inl (0, 18))) (riverD (.inl (x1, x1)) (.inl (y1, y1)) (.inl (0, 4)) 31 33 35 39 43 47) (riverD (.inl (x2, x2)) (.inl (y2, y2)) (.inl (0, 4)) 32 34 36 40 44 48) (rcD (.inl (t, t)) (.inr [27]) (.inr [26]) (.inl (kb, kb))) (rdD (.inl (0, 400)) (.inl (0, 400)) (.inl (0, 4000)) (.inl (0, 1)) (.inr [26, 27])) (xB 400 T) A14F A14F A4F A4F A14F A14F (riverD (.inl (x3, x3)) (.inl (y3, y3)) (.inl (0, 4)) 3 8 3 41 45 49) (riverD (.inl (x4, x4)) (.inl (y4, y4)) (.inl (0, 4)) 3 8 3 42 46 50) (xD 12 Da1) (xD 12 Da2) (xD 12 Da3) (xD 12 Da4) (xD 12 Sa1) (xD 12 Sa2) (xD 12 Sa3) (xD 12 Sa4) (xD 48 Qa1) (xD 48 Qa2) (xD 48 Qa3) (xD 48 Qa4)) H1 := hN_
    refine lv_aload_n hx hb dL_law_1195 rfl (lv_at hl 1 rfl) ?_
    refine lv_aload_n hx hb dL_law_1196 rfl (lv_at hl 3 rfl) ?_
    refine lv_iload_n hx hb dL_law_1197 rfl (lv_at hl 0 rfl) ?_
    refine lv_iconst (v := 1) hx hb dL_law_1198 (by decide) ?_
    refine lv_iadd hx hb dL_law_1199 ?_
    refine va_sld hx hb hX hbl hbA hS (vinT (by rw [hk1]; omega)) dL_law_1200 ?_
    refine lv_topi (fun a1_1 ea1_1 => ?_)
    obtain rfl : a1_0 = a1_1 := ea1_0.trans ea1_1.symm
    refine lawVi (E := (eM l G k tM aX aV)) (b := g0) (As := [.int a1_0]) (rest := [.int v0]) F hK hN hOm hTm (c_X7_above_x (eM l G k tM aX aV) (xD 6600 W0) (xD 1320 V0) (xD 660 A0) (xD 660 B1) m_second (xB 400 T) (xZ 2 K0) (u, u) (0, 18) (((-2147483648), 2147483647)) (t, t) (((-2147483648), 2147483647)) (0, 4000) (((-2147483648), 2147483647)) (((-2147483648), 2147483647)) (0, 1) X0 g0 a1_0 (List.mem_singleton.mpr hg0) hX0) mv_X7_above wd_51_20 ⟨Nat.le_of_ble_eq_true rfl, Nat.le_of_ble_eq_true rfl⟩ ⟨Nat.le_of_ble_eq_true rfl, Nat.le_of_ble_eq_true rfl⟩ hM hS (tRecv hK hM (by rw [show eT (eM l G k tM aX aV) g0 = 24 from hg0]; rfl) clX7) rfl hl.1 (Nat.le_of_ble_eq_true rfl) dL_law_1201 (fun v1 H1 locs hq hk_ hS => ?_)
    obtain ⟨f1_0, f1_1, hN_⟩ := hq
    have hC := keptC hdis hC hk_
    have hM : TH (eM l G k tM aX aV) (tbM (mD (.inl (t, t)) (.inl (-2147483648, 2147483647)) (.inl (-2147483648, 2147483647)) (.inl (u, u)) (.inl (0, 18)) (.inl (-2147483648, 2147483647)) (.inl (0, 4000)) (.inl (-2147483648, 2147483647)) (.inl (0, 1))) (xD 660 X0) (xD 6600 W0) (xD 1320 V0) (xD 660 A0) (xD 660 B1) m_second (xB 400 T) (xZ 2 K0)) H1 := hN_
    have hcmp : v0.toInt = v1.toInt := by
      rw [f0_1, f1_1]
      exact congrArg Int32.toInt (rowT.above (rowT.sq (hTie.2.1 rfl) hqX0 (by omega)) (by omega) hX0)
    refine b_eq (tgt := 1529) F dL_law_1204 (by decide) (fun _ => ?_) (fun c_ => absurd (by omega) c_)
    have hG_ : (([27] = [26] ∧ [26] = [27]) ∨ ([27] = [27] ∧ [26] = [26])) ∧ (0 ≤ kb ∧ kb ≤ 3) ∧ (0 ≤ x1 ∧ x1 ≤ 12) ∧ (0 ≤ y1 ∧ y1 ≤ 14) ∧ (0 ≤ x2 ∧ x2 ≤ 12) ∧ (0 ≤ y2 ∧ y2 ≤ 14) ∧ (0 ≤ x3 ∧ x3 ≤ 12) ∧ (0 ≤ y3 ∧ y3 ≤ 14) ∧ (0 ≤ x4 ∧ x4 ≤ 12) ∧ (0 ≤ y4 ∧ y4 ≤ 14) ∧ ivP 12 (-2) 11 Da1 ∧ ivP 12 (-2147483648) 2147483647 Sa1 ∧ ivP 48 (-2147483648) 2147483647 Qa1 ∧ ivP 12 (-2) 11 Da2 ∧ ivP 12 (-2147483648) 2147483647 Sa2 ∧ ivP 48 (-2147483648) 2147483647 Qa2 ∧ ivP 12 (-2) 11 Da3 ∧ ivP 12 (-2147483648) 2147483647 Sa3 ∧ ivP 48 (-2147483648) 2147483647 Qa3 ∧ ivP 12 (-2) 11 Da4 ∧ ivP 12 (-2147483648) 2147483647 Sa4 ∧ ivP 48 (-2147483648) 2147483647 Qa4 := ⟨(by decide), (by omega), (by omega), (by omega), (by omega), (by omega), (by omega), (by omega), (by omega), (by omega), hDa1, hSa1, hQa1, hDa2, hSa2, hQa2, hDa3, hSa3, hQa3, hDa4, hSa4, hQa4⟩
    exact hend t T ([27], [26], kb, x1, y1, x2, y2, x3, y3, x4, y4, Da1, Sa1, Qa1, Da2, Sa2, Qa2, Da3, Sa3, Qa3, Da4, Sa4, Qa4) _ _ ⟨(by omega), hT8⟩ hG_ hC ⟨X0, W0, V0, A0, B1, K0, Z, Y0, Y1, u, (by omega), hX0, hW0, hV0, hA0, hK0, hqX0, hmW0, hy0, hy1, hTie, hM⟩ hS
set_option maxHeartbeats 4000000 in
set_option maxRecDepth 100000 in
theorem law_c33 {pg_ : Program} {l : Launch} {ev_ : Env} {s : State} {mi_ : MethodId} {below_ : List Frame} {meth : Method} {cd_ : Code} {H : Heap} {locs : List Loc} {ls : Array Slot} {b L : Nat} {xs : Nat → Int32} {G : va_G} {k : Nat → ClassId} {tC tM aX aV : Nat → Nat} {h0 g0 : Nat} {i : Int32} {t : Int} {T : RwF} {g : Gs} (B0 : LB pg_ s mi_ meth cd_ b L xs l G k tC tM aX aV h0 g0) (hi : 0 ≤ i.toInt ∧ i.toInt + 6 ≤ L) (ht : (0 ≤ t ∧ t ≤ 400) ∧ ivP 400 (-128) 127 T) (hg : Gok g) (hC : Cs (eC l G k tC aX aV) t T g H) (hMs : Ms (eM l G k tM aX aV) t T g H) (hS : va_S (lawA s) s.heap H locs) (hl : lv_has ls 4 [(3, .int i), (2, .ref g0), (1, .ref h0), (0, .ref b)]) (hend : ∀ (t : Int) (T : RwF) (g : Gs) (H : Heap) (locs : List Loc), ((0 ≤ t ∧ t ≤ 400) ∧ ivP 400 (-128) 127 T) → Gok g → Cs (eC l G k tC aX aV) t T g H → Ms (eM l G k tM aX aV) t T g H → va_S (lawA s) s.heap H locs → W pg_ l ev_ room_1 s mi_ #[Value.ref b] below_ meth cd_ H locs 294 18964 (lw_Z below_ #[Value.ref b] s) (F0 mi_ 1529 ls [])) : W pg_ l ev_ room_1 s mi_ #[Value.ref b] below_ meth cd_ H locs 294 18964 (lw_Z below_ #[Value.ref b] s) (F0 mi_ 1209 ls []) := by
  obtain ⟨F, hK, hN, hOc, hOm, hX, hbl, hL, hTc, hTm, hdis, hh0, hg0⟩ := id B0
  obtain ⟨hx, hb, hr, hml, hown, hlk, hw, -⟩ := id F
  have hbA : ¬ lawA s b := fun q => absurd q (by unfold lawA; omega)
  obtain ⟨kr, ks, kb, x1, y1, x2, y2, x3, y3, x4, y4, Da1, Sa1, Qa1, Da2, Sa2, Qa2, Da3, Sa3, Qa3, Da4, Sa4, Qa4⟩ := g
  obtain ⟨X0, W0, V0, A0, B1, K0, Z, Y0, Y1, u, hu, hX0, hW0, hV0, hA0, hK0, hqX0, hmW0, hy0, hy1, hTie0, hM⟩ := hMs
  obtain ⟨ht, hT8⟩ := ht
  have hg : ((kr = [26] ∧ ks = [27]) ∨ (kr = [27] ∧ ks = [26])) ∧ (0 ≤ kb ∧ kb ≤ 3) ∧ (0 ≤ x1 ∧ x1 ≤ 12) ∧ (0 ≤ y1 ∧ y1 ≤ 14) ∧ (0 ≤ x2 ∧ x2 ≤ 12) ∧ (0 ≤ y2 ∧ y2 ≤ 14) ∧ (0 ≤ x3 ∧ x3 ≤ 12) ∧ (0 ≤ y3 ∧ y3 ≤ 14) ∧ (0 ≤ x4 ∧ x4 ≤ 12) ∧ (0 ≤ y4 ∧ y4 ≤ 14) ∧ ivP 12 (-2) 11 Da1 ∧ ivP 12 (-2147483648) 2147483647 Sa1 ∧ ivP 48 (-2147483648) 2147483647 Qa1 ∧ ivP 12 (-2) 11 Da2 ∧ ivP 12 (-2147483648) 2147483647 Sa2 ∧ ivP 48 (-2147483648) 2147483647 Qa2 ∧ ivP 12 (-2) 11 Da3 ∧ ivP 12 (-2147483648) 2147483647 Sa3 ∧ ivP 48 (-2147483648) 2147483647 Qa3 ∧ ivP 12 (-2) 11 Da4 ∧ ivP 12 (-2147483648) 2147483647 Sa4 ∧ ivP 48 (-2147483648) 2147483647 Qa4 := hg
  obtain ⟨hkk, hkb, hx1, hy1_, hx2, hy2_, hx3, hy3_, hx4, hy4_, hDa1, hSa1, hQa1, hDa2, hSa2, hQa2, hDa3, hSa3, hQa3, hDa4, hSa4, hQa4⟩ := hg
  have hC : TH (eC l G k tC aX aV) (tbC (dayD (.inl (0, 18))) (dayD (.inl (0, 18))) (riverD (.inl (x1, x1)) (.inl (y1, y1)) (.inl (0, 4)) 31 33 35 39 43 47) (riverD (.inl (x2, x2)) (.inl (y2, y2)) (.inl (0, 4)) 32 34 36 40 44 48) (rcD (.inl (t, t)) (.inr kr) (.inr ks) (.inl (kb, kb))) (rdD (.inl (0, 400)) (.inl (0, 400)) (.inl (0, 4000)) (.inl (0, 1)) (.inr [26, 27])) (xB 400 T) A14F A14F A4F A4F A14F A14F (riverD (.inl (x3, x3)) (.inl (y3, y3)) (.inl (0, 4)) 3 8 3 41 45 49) (riverD (.inl (x4, x4)) (.inl (y4, y4)) (.inl (0, 4)) 3 8 3 42 46 50) (xD 12 Da1) (xD 12 Da2) (xD 12 Da3) (xD 12 Da4) (xD 12 Sa1) (xD 12 Sa2) (xD 12 Sa3) (xD 12 Sa4) (xD 48 Qa1) (xD 48 Qa2) (xD 48 Qa3) (xD 48 Qa4)) H := hC
  have hTie : (kr = [26] → rowT x1 Da1 Sa1 Qa1 Z) ∧ (kr = [27] → rowT x2 Da2 Sa2 Qa2 Z) ∧ gI K0 0 = kb % 2 ∧ gI K0 1 = kb / 2 ∧ (kb % 2 = 1 → rowT x3 Da3 Sa3 Qa3 Y0) ∧ (kb / 2 = 1 → rowT x4 Da4 Sa4 Qa4 Y1) := hTie0
  clear hTie0
  have hk1 : (i + 1).toInt = i.toInt + 1 := by
    have h1 := i_add (x := i) (y := 1) (by rw [show (1 : Int32).toInt = 1 by decide]; omega) (by rw [show (1 : Int32).toInt = 1 by decide]; omega)
    rw [show (1 : Int32).toInt = 1 by decide] at h1
    exact h1
  refine lv_aload_n hx hb dL_law_1209 rfl (lv_at hl 2 rfl) ?_
  refine lv_aload_n hx hb dL_law_1210 rfl (lv_at hl 3 rfl) ?_
  refine lv_iload_n hx hb dL_law_1211 rfl (lv_at hl 0 rfl) ?_
  refine lv_iconst (v := 1) hx hb dL_law_1212 (by decide) ?_
  refine lv_iadd hx hb dL_law_1213 ?_
  refine va_sld hx hb hX hbl hbA hS (vinT (by rw [hk1]; omega)) dL_law_1214 ?_
  refine lv_topi (fun a1_0 ea1_0 => ?_)
  have hkr : ∀ t ∈ kr, t ∈ [26, 27] := by rcases hkk with ⟨h9_, -⟩ | ⟨h9_, -⟩ <;> rw [h9_] <;> decide
  have hks : ∀ t ∈ ks, t ∈ [26, 27] := by rcases hkk with ⟨-, h9_⟩ | ⟨-, h9_⟩ <;> rw [h9_] <;> decide
  refine lawVi (E := (eC l G k tC aX aV)) (b := h0) (As := [.int a1_0]) (rest := []) F hK hN hOc hTc (c_X6_thirst (eC l G k tC aX aV) (rdD (.inl (0, 400)) (.inl (0, 400)) (.inl (0, 4000)) (.inl (0, 1)) (.inr [26, 27])) (xB 400 T) (kb, kb) (x1, x1) (y1, y1) (x2, x2) (y2, y2) (x3, x3) (y3, y3) (x4, x4) (y4, y4) kr ks (fun f_ => f_ = Da1) (fun f_ => f_ = Da2) (fun f_ => f_ = Da3) (fun f_ => f_ = Da4) (fun f_ => f_ = Sa1) (fun f_ => f_ = Sa2) (fun f_ => f_ = Sa3) (fun f_ => f_ = Sa4) (fun f_ => f_ = Qa1) (fun f_ => f_ = Qa2) (fun f_ => f_ = Qa3) (fun f_ => f_ = Qa4) t h0 a1_0 (List.mem_singleton.mpr hh0) (by omega) (by show 0 ≤ x1 ∧ x1 ≤ 12; omega) (by show 0 ≤ y1 ∧ y1 ≤ 14; omega) (by show 0 ≤ x2 ∧ x2 ≤ 12; omega) (by show 0 ≤ y2 ∧ y2 ≤ 14; omega) (by show 0 ≤ x3 ∧ x3 ≤ 12; omega) (by show 0 ≤ y3 ∧ y3 ≤ 14; omega) (by show 0 ≤ x4 ∧ x4 ≤ 12; omega) (by show 0 ≤ y4 ∧ y4 ≤ 14; omega) hkr hks (fun f_ h_ => ivX hDa1 h_) (fun f_ h_ => ivX hDa2 h_) (fun f_ h_ => ivX hDa3 h_) (fun f_ h_ => ivX hDa4 h_) (fun f_ h_ => ivX hSa1 h_) (fun f_ h_ => ivX hSa2 h_) (fun f_ h_ => ivX hSa3 h_) (fun f_ h_ => ivX hSa4 h_) (fun f_ h_ => ivX hQa1 h_) (fun f_ h_ => ivX hQa2 h_) (fun f_ h_ => ivX hQa3 h_) (fun f_ h_ => ivX hQa4 h_)) mv_X6_thirst wd_52_0 ⟨Nat.le_of_ble_eq_true rfl, Nat.le_of_ble_eq_true rfl⟩ ⟨Nat.le_of_ble_eq_true rfl, Nat.le_of_ble_eq_true rfl⟩ hC hS (tRecv hK hC (by rw [show eT (eC l G k tC aX aV) h0 = 28 from hh0]; rfl) clX6) rfl hl.1 (Nat.le_of_ble_eq_true rfl) dL_law_1215 (fun v0 H1 locs hq hk_ hS => ?_)
  obtain ⟨f0_0, hN_⟩ := hq
  have hM := keptM hdis hM hk_
  have hC : TH (eC l G k tC aX aV) (tbC (dayD (.inl (0, 18))) (dayD (.inl (0, 18))) (riverD (.inl (x1, x1)) (.inl (y1, y1)) (.inl (0, 4)) 31 33 35 39 43 47) (riverD (.inl (x2, x2)) (.inl (y2, y2)) (.inl (0, 4)) 32 34 36 40 44 48) (rcD (.inl (t, t)) (.inr kr) (.inr ks) (.inl (kb, kb))) (rdD (.inl (0, 400)) (.inl (0, 400)) (.inl (0, 4000)) (.inl (0, 1)) (.inr [26, 27])) (xB 400 T) A14F A14F A4F A4F A14F A14F (riverD (.inl (x3, x3)) (.inl (y3, y3)) (.inl (0, 4)) 3 8 3 41 45 49) (riverD (.inl (x4, x4)) (.inl (y4, y4)) (.inl (0, 4)) 3 8 3 42 46 50) (xD 12 Da1) (xD 12 Da2) (xD 12 Da3) (xD 12 Da4) (xD 12 Sa1) (xD 12 Sa2) (xD 12 Sa3) (xD 12 Sa4) (xD 48 Qa1) (xD 48 Qa2) (xD 48 Qa3) (xD 48 Qa4)) H1 := hN_
  refine lv_pop hx hb dL_law_1218 rfl ?_
  refine lv_aload_n hx hb dL_law_1219 rfl (lv_at hl 1 rfl) ?_
  refine lv_aload_n hx hb dL_law_1220 rfl (lv_at hl 3 rfl) ?_
  refine lv_iload_n hx hb dL_law_1221 rfl (lv_at hl 0 rfl) ?_
  refine lv_iconst (v := 1) hx hb dL_law_1222 (by decide) ?_
  refine lv_iadd hx hb dL_law_1223 ?_
  refine va_sld hx hb hX hbl hbA hS (vinT (by rw [hk1]; omega)) dL_law_1224 ?_
  refine lv_topi (fun a1_1 ea1_1 => ?_)
  obtain rfl : a1_0 = a1_1 := ea1_0.trans ea1_1.symm
  refine lawVi (E := (eM l G k tM aX aV)) (b := g0) (As := [.int a1_0]) (rest := []) F hK hN hOm hTm (c_X7_thirst (eM l G k tM aX aV) (xD 6600 W0) (xD 1320 V0) (xD 660 A0) (xD 660 B1) (xB 400 T) (xZ 2 K0) (u, u) (t, t) (((-2147483648), 2147483647)) (0, 4000) (((-2147483648), 2147483647)) (((-2147483648), 2147483647)) (0, 1) X0 g0 a1_0 (List.mem_singleton.mpr hg0) hX0) mv_X7_thirst wd_52_4 ⟨Nat.le_of_ble_eq_true rfl, Nat.le_of_ble_eq_true rfl⟩ ⟨Nat.le_of_ble_eq_true rfl, Nat.le_of_ble_eq_true rfl⟩ hM hS (tRecv hK hM (by rw [show eT (eM l G k tM aX aV) g0 = 24 from hg0]; rfl) clX7) rfl hl.1 (Nat.le_of_ble_eq_true rfl) dL_law_1225 (fun v1 H1 locs hq hk_ hS => ?_)
  obtain ⟨f1_0, hN_⟩ := hq
  have hC := keptC hdis hC hk_
  have hM : TH (eM l G k tM aX aV) (tbM (mD (.inl (t, t)) (.inl (-2147483648, 2147483647)) (.inl (-2147483648, 2147483647)) (.inl (u, u)) (.inl (0, 18)) (.inl (-2147483648, 2147483647)) (.inl (0, 4000)) (.inl (-2147483648, 2147483647)) (.inl (0, 1))) (xD 660 X0) (xD 6600 W0) (xD 1320 V0) (xD 660 A0) (xD 660 B1) m_second (xB 400 T) (xZ 2 K0)) H1 := hN_
  refine lv_pop hx hb dL_law_1228 rfl ?_
  refine lv_goto (tgt := 1529) hx hb dL_law_1229 (by decide) ?_
  have hG_ : ((kr = [26] ∧ ks = [27]) ∨ (kr = [27] ∧ ks = [26])) ∧ (0 ≤ kb ∧ kb ≤ 3) ∧ (0 ≤ x1 ∧ x1 ≤ 12) ∧ (0 ≤ y1 ∧ y1 ≤ 14) ∧ (0 ≤ x2 ∧ x2 ≤ 12) ∧ (0 ≤ y2 ∧ y2 ≤ 14) ∧ (0 ≤ x3 ∧ x3 ≤ 12) ∧ (0 ≤ y3 ∧ y3 ≤ 14) ∧ (0 ≤ x4 ∧ x4 ≤ 12) ∧ (0 ≤ y4 ∧ y4 ≤ 14) ∧ ivP 12 (-2) 11 Da1 ∧ ivP 12 (-2147483648) 2147483647 Sa1 ∧ ivP 48 (-2147483648) 2147483647 Qa1 ∧ ivP 12 (-2) 11 Da2 ∧ ivP 12 (-2147483648) 2147483647 Sa2 ∧ ivP 48 (-2147483648) 2147483647 Qa2 ∧ ivP 12 (-2) 11 Da3 ∧ ivP 12 (-2147483648) 2147483647 Sa3 ∧ ivP 48 (-2147483648) 2147483647 Qa3 ∧ ivP 12 (-2) 11 Da4 ∧ ivP 12 (-2147483648) 2147483647 Sa4 ∧ ivP 48 (-2147483648) 2147483647 Qa4 := ⟨hkk, (by omega), (by omega), (by omega), (by omega), (by omega), (by omega), (by omega), (by omega), (by omega), hDa1, hSa1, hQa1, hDa2, hSa2, hQa2, hDa3, hSa3, hQa3, hDa4, hSa4, hQa4⟩
  exact hend t T (kr, ks, kb, x1, y1, x2, y2, x3, y3, x4, y4, Da1, Sa1, Qa1, Da2, Sa2, Qa2, Da3, Sa3, Qa3, Da4, Sa4, Qa4) _ _ ⟨(by omega), hT8⟩ hG_ hC ⟨X0, W0, V0, A0, B1, K0, Z, Y0, Y1, u, (by omega), hX0, hW0, hV0, hA0, hK0, hqX0, hmW0, hy0, hy1, hTie, hM⟩ hS
set_option maxHeartbeats 4000000 in
set_option maxRecDepth 100000 in
theorem law_c34 {pg_ : Program} {l : Launch} {ev_ : Env} {s : State} {mi_ : MethodId} {below_ : List Frame} {meth : Method} {cd_ : Code} {H : Heap} {locs : List Loc} {ls : Array Slot} {b L : Nat} {xs : Nat → Int32} {G : va_G} {k : Nat → ClassId} {tC tM aX aV : Nat → Nat} {h0 g0 : Nat} {i : Int32} {t : Int} {T : RwF} {g : Gs} (B0 : LB pg_ s mi_ meth cd_ b L xs l G k tC tM aX aV h0 g0) (hi : 0 ≤ i.toInt ∧ i.toInt + 6 ≤ L) (ht : (0 ≤ t ∧ t ≤ 400) ∧ ivP 400 (-128) 127 T) (hg : Gok g) (hC : Cs (eC l G k tC aX aV) t T g H) (hMs : Ms (eM l G k tM aX aV) t T g H) (hS : va_S (lawA s) s.heap H locs) (hl : lv_has ls 4 [(3, .int i), (2, .ref g0), (1, .ref h0), (0, .ref b)]) (hend : ∀ (t : Int) (T : RwF) (g : Gs) (H : Heap) (locs : List Loc), ((0 ≤ t ∧ t ≤ 400) ∧ ivP 400 (-128) 127 T) → Gok g → Cs (eC l G k tC aX aV) t T g H → Ms (eM l G k tM aX aV) t T g H → va_S (lawA s) s.heap H locs → W pg_ l ev_ room_1 s mi_ #[Value.ref b] below_ meth cd_ H locs 294 18964 (lw_Z below_ #[Value.ref b] s) (F0 mi_ 1529 ls [])) : W pg_ l ev_ room_1 s mi_ #[Value.ref b] below_ meth cd_ H locs 294 18964 (lw_Z below_ #[Value.ref b] s) (F0 mi_ 1232 ls []) := by
  obtain ⟨F, hK, hN, hOc, hOm, hX, hbl, hL, hTc, hTm, hdis, hh0, hg0⟩ := id B0
  obtain ⟨hx, hb, hr, hml, hown, hlk, hw, -⟩ := id F
  have hbA : ¬ lawA s b := fun q => absurd q (by unfold lawA; omega)
  obtain ⟨kr, ks, kb, x1, y1, x2, y2, x3, y3, x4, y4, Da1, Sa1, Qa1, Da2, Sa2, Qa2, Da3, Sa3, Qa3, Da4, Sa4, Qa4⟩ := g
  obtain ⟨X0, W0, V0, A0, B1, K0, Z, Y0, Y1, u, hu, hX0, hW0, hV0, hA0, hK0, hqX0, hmW0, hy0, hy1, hTie0, hM⟩ := hMs
  obtain ⟨ht, hT8⟩ := ht
  have hg : ((kr = [26] ∧ ks = [27]) ∨ (kr = [27] ∧ ks = [26])) ∧ (0 ≤ kb ∧ kb ≤ 3) ∧ (0 ≤ x1 ∧ x1 ≤ 12) ∧ (0 ≤ y1 ∧ y1 ≤ 14) ∧ (0 ≤ x2 ∧ x2 ≤ 12) ∧ (0 ≤ y2 ∧ y2 ≤ 14) ∧ (0 ≤ x3 ∧ x3 ≤ 12) ∧ (0 ≤ y3 ∧ y3 ≤ 14) ∧ (0 ≤ x4 ∧ x4 ≤ 12) ∧ (0 ≤ y4 ∧ y4 ≤ 14) ∧ ivP 12 (-2) 11 Da1 ∧ ivP 12 (-2147483648) 2147483647 Sa1 ∧ ivP 48 (-2147483648) 2147483647 Qa1 ∧ ivP 12 (-2) 11 Da2 ∧ ivP 12 (-2147483648) 2147483647 Sa2 ∧ ivP 48 (-2147483648) 2147483647 Qa2 ∧ ivP 12 (-2) 11 Da3 ∧ ivP 12 (-2147483648) 2147483647 Sa3 ∧ ivP 48 (-2147483648) 2147483647 Qa3 ∧ ivP 12 (-2) 11 Da4 ∧ ivP 12 (-2147483648) 2147483647 Sa4 ∧ ivP 48 (-2147483648) 2147483647 Qa4 := hg
  obtain ⟨hkk, hkb, hx1, hy1_, hx2, hy2_, hx3, hy3_, hx4, hy4_, hDa1, hSa1, hQa1, hDa2, hSa2, hQa2, hDa3, hSa3, hQa3, hDa4, hSa4, hQa4⟩ := hg
  have hC : TH (eC l G k tC aX aV) (tbC (dayD (.inl (0, 18))) (dayD (.inl (0, 18))) (riverD (.inl (x1, x1)) (.inl (y1, y1)) (.inl (0, 4)) 31 33 35 39 43 47) (riverD (.inl (x2, x2)) (.inl (y2, y2)) (.inl (0, 4)) 32 34 36 40 44 48) (rcD (.inl (t, t)) (.inr kr) (.inr ks) (.inl (kb, kb))) (rdD (.inl (0, 400)) (.inl (0, 400)) (.inl (0, 4000)) (.inl (0, 1)) (.inr [26, 27])) (xB 400 T) A14F A14F A4F A4F A14F A14F (riverD (.inl (x3, x3)) (.inl (y3, y3)) (.inl (0, 4)) 3 8 3 41 45 49) (riverD (.inl (x4, x4)) (.inl (y4, y4)) (.inl (0, 4)) 3 8 3 42 46 50) (xD 12 Da1) (xD 12 Da2) (xD 12 Da3) (xD 12 Da4) (xD 12 Sa1) (xD 12 Sa2) (xD 12 Sa3) (xD 12 Sa4) (xD 48 Qa1) (xD 48 Qa2) (xD 48 Qa3) (xD 48 Qa4)) H := hC
  have hTie : (kr = [26] → rowT x1 Da1 Sa1 Qa1 Z) ∧ (kr = [27] → rowT x2 Da2 Sa2 Qa2 Z) ∧ gI K0 0 = kb % 2 ∧ gI K0 1 = kb / 2 ∧ (kb % 2 = 1 → rowT x3 Da3 Sa3 Qa3 Y0) ∧ (kb / 2 = 1 → rowT x4 Da4 Sa4 Qa4 Y1) := hTie0
  clear hTie0
  have hk1 : (i + 1).toInt = i.toInt + 1 := by
    have h1 := i_add (x := i) (y := 1) (by rw [show (1 : Int32).toInt = 1 by decide]; omega) (by rw [show (1 : Int32).toInt = 1 by decide]; omega)
    rw [show (1 : Int32).toInt = 1 by decide] at h1
    exact h1
  refine lv_aload_n hx hb dL_law_1232 rfl (lv_at hl 2 rfl) ?_
  refine lv_aload_n hx hb dL_law_1233 rfl (lv_at hl 3 rfl) ?_
  refine lv_iload_n hx hb dL_law_1234 rfl (lv_at hl 0 rfl) ?_
  refine lv_iconst (v := 1) hx hb dL_law_1235 (by decide) ?_
  refine lv_iadd hx hb dL_law_1236 ?_
  refine va_sld hx hb hX hbl hbA hS (vinT (by rw [hk1]; omega)) dL_law_1237 ?_
  refine lv_topi (fun a1_0 ea1_0 => ?_)
  have hkr : ∀ t ∈ kr, t ∈ [26, 27] := by rcases hkk with ⟨h9_, -⟩ | ⟨h9_, -⟩ <;> rw [h9_] <;> decide
  have hks : ∀ t ∈ ks, t ∈ [26, 27] := by rcases hkk with ⟨-, h9_⟩ | ⟨-, h9_⟩ <;> rw [h9_] <;> decide
  refine lawVi (E := (eC l G k tC aX aV)) (b := h0) (As := [.int a1_0]) (rest := []) F hK hN hOc hTc (c_X6_letter (eC l G k tC aX aV) (rdD (.inl (0, 400)) (.inl (0, 400)) (.inl (0, 4000)) (.inl (0, 1)) (.inr [26, 27])) (xB 400 T) (kb, kb) (x1, x1) (y1, y1) (x2, x2) (y2, y2) (x3, x3) (y3, y3) (x4, x4) (y4, y4) kr ks (fun f_ => f_ = Da1) (fun f_ => f_ = Da2) (fun f_ => f_ = Da3) (fun f_ => f_ = Da4) (fun f_ => f_ = Sa1) (fun f_ => f_ = Sa2) (fun f_ => f_ = Sa3) (fun f_ => f_ = Sa4) (fun f_ => f_ = Qa1) (fun f_ => f_ = Qa2) (fun f_ => f_ = Qa3) (fun f_ => f_ = Qa4) t h0 a1_0 (List.mem_singleton.mpr hh0) (by omega) (by show 0 ≤ x1 ∧ x1 ≤ 12; omega) (by show 0 ≤ y1 ∧ y1 ≤ 14; omega) (by show 0 ≤ x2 ∧ x2 ≤ 12; omega) (by show 0 ≤ y2 ∧ y2 ≤ 14; omega) (by show 0 ≤ x3 ∧ x3 ≤ 12; omega) (by show 0 ≤ y3 ∧ y3 ≤ 14; omega) (by show 0 ≤ x4 ∧ x4 ≤ 12; omega) (by show 0 ≤ y4 ∧ y4 ≤ 14; omega) hkr hks (fun f_ h_ => ivX hDa1 h_) (fun f_ h_ => ivX hDa2 h_) (fun f_ h_ => ivX hDa3 h_) (fun f_ h_ => ivX hDa4 h_) (fun f_ h_ => ivX hSa1 h_) (fun f_ h_ => ivX hSa2 h_) (fun f_ h_ => ivX hSa3 h_) (fun f_ h_ => ivX hSa4 h_) (fun f_ h_ => ivX hQa1 h_) (fun f_ h_ => ivX hQa2 h_) (fun f_ h_ => ivX hQa3 h_) (fun f_ h_ => ivX hQa4 h_)) mv_X6_letter wd_52_12 ⟨Nat.le_of_ble_eq_true rfl, Nat.le_of_ble_eq_true rfl⟩ ⟨Nat.le_of_ble_eq_true rfl, Nat.le_of_ble_eq_true rfl⟩ hC hS (tRecv hK hC (by rw [show eT (eC l G k tC aX aV) h0 = 28 from hh0]; rfl) clX6) rfl hl.1 (Nat.le_of_ble_eq_true rfl) dL_law_1238 (fun v0 H1 locs hq hk_ hS => ?_)
  obtain ⟨f0_0, hN_⟩ := hq
  have hM := keptM hdis hM hk_
  have hC : TH (eC l G k tC aX aV) (tbC (dayD (.inl (0, 18))) (dayD (.inl (0, 18))) (riverD (.inl (x1, x1)) (.inl (y1, y1)) (.inl (0, 4)) 31 33 35 39 43 47) (riverD (.inl (x2, x2)) (.inl (y2, y2)) (.inl (0, 4)) 32 34 36 40 44 48) (rcD (.inl (t, t)) (.inr kr) (.inr ks) (.inl (kb, kb))) (rdD (.inl (0, 400)) (.inl (0, 400)) (.inl (0, 4000)) (.inl (0, 1)) (.inr [26, 27])) (xB 400 T) A14F A14F A4F A4F A14F A14F (riverD (.inl (x3, x3)) (.inl (y3, y3)) (.inl (0, 4)) 3 8 3 41 45 49) (riverD (.inl (x4, x4)) (.inl (y4, y4)) (.inl (0, 4)) 3 8 3 42 46 50) (xD 12 Da1) (xD 12 Da2) (xD 12 Da3) (xD 12 Da4) (xD 12 Sa1) (xD 12 Sa2) (xD 12 Sa3) (xD 12 Sa4) (xD 48 Qa1) (xD 48 Qa2) (xD 48 Qa3) (xD 48 Qa4)) H1 := hN_
  refine lv_pop hx hb dL_law_1241 rfl ?_
  refine lv_aload_n hx hb dL_law_1242 rfl (lv_at hl 1 rfl) ?_
  refine lv_aload_n hx hb dL_law_1243 rfl (lv_at hl 3 rfl) ?_
  refine lv_iload_n hx hb dL_law_1244 rfl (lv_at hl 0 rfl) ?_
  refine lv_iconst (v := 1) hx hb dL_law_1245 (by decide) ?_
  refine lv_iadd hx hb dL_law_1246 ?_
  refine va_sld hx hb hX hbl hbA hS (vinT (by rw [hk1]; omega)) dL_law_1247 ?_
  refine lv_topi (fun a1_1 ea1_1 => ?_)
  obtain rfl : a1_0 = a1_1 := ea1_0.trans ea1_1.symm
  refine lawVi (E := (eM l G k tM aX aV)) (b := g0) (As := [.int a1_0]) (rest := []) F hK hN hOm hTm (c_X7_letter (eM l G k tM aX aV) (xD 6600 W0) (xD 1320 V0) (xD 660 A0) (xD 660 B1) m_second (xB 400 T) (xZ 2 K0) (u, u) (0, 18) (((-2147483648), 2147483647)) (t, t) (((-2147483648), 2147483647)) (0, 4000) (((-2147483648), 2147483647)) (((-2147483648), 2147483647)) (0, 1) X0 g0 a1_0 (List.mem_singleton.mpr hg0) hX0) mv_X7_letter wd_55_8 ⟨Nat.le_of_ble_eq_true rfl, Nat.le_of_ble_eq_true rfl⟩ ⟨Nat.le_of_ble_eq_true rfl, Nat.le_of_ble_eq_true rfl⟩ hM hS (tRecv hK hM (by rw [show eT (eM l G k tM aX aV) g0 = 24 from hg0]; rfl) clX7) rfl hl.1 (Nat.le_of_ble_eq_true rfl) dL_law_1248 (fun v1 H1 locs hq hk_ hS => ?_)
  obtain ⟨f1_0, hN_⟩ := hq
  have hC := keptC hdis hC hk_
  have hM : TH (eM l G k tM aX aV) (tbM (mD (.inl (t, t)) (.inl (-2147483648, 2147483647)) (.inl (-2147483648, 2147483647)) (.inl (u, u)) (.inl (0, 18)) (.inl (-2147483648, 2147483647)) (.inl (0, 4000)) (.inl (-2147483648, 2147483647)) (.inl (0, 1))) (xD 660 X0) (xD 6600 W0) (xD 1320 V0) (xD 660 A0) (xD 660 B1) m_second (xB 400 T) (xZ 2 K0)) H1 := hN_
  refine lv_pop hx hb dL_law_1251 rfl ?_
  refine lv_goto (tgt := 1529) hx hb dL_law_1252 (by decide) ?_
  have hG_ : ((kr = [26] ∧ ks = [27]) ∨ (kr = [27] ∧ ks = [26])) ∧ (0 ≤ kb ∧ kb ≤ 3) ∧ (0 ≤ x1 ∧ x1 ≤ 12) ∧ (0 ≤ y1 ∧ y1 ≤ 14) ∧ (0 ≤ x2 ∧ x2 ≤ 12) ∧ (0 ≤ y2 ∧ y2 ≤ 14) ∧ (0 ≤ x3 ∧ x3 ≤ 12) ∧ (0 ≤ y3 ∧ y3 ≤ 14) ∧ (0 ≤ x4 ∧ x4 ≤ 12) ∧ (0 ≤ y4 ∧ y4 ≤ 14) ∧ ivP 12 (-2) 11 Da1 ∧ ivP 12 (-2147483648) 2147483647 Sa1 ∧ ivP 48 (-2147483648) 2147483647 Qa1 ∧ ivP 12 (-2) 11 Da2 ∧ ivP 12 (-2147483648) 2147483647 Sa2 ∧ ivP 48 (-2147483648) 2147483647 Qa2 ∧ ivP 12 (-2) 11 Da3 ∧ ivP 12 (-2147483648) 2147483647 Sa3 ∧ ivP 48 (-2147483648) 2147483647 Qa3 ∧ ivP 12 (-2) 11 Da4 ∧ ivP 12 (-2147483648) 2147483647 Sa4 ∧ ivP 48 (-2147483648) 2147483647 Qa4 := ⟨hkk, (by omega), (by omega), (by omega), (by omega), (by omega), (by omega), (by omega), (by omega), (by omega), hDa1, hSa1, hQa1, hDa2, hSa2, hQa2, hDa3, hSa3, hQa3, hDa4, hSa4, hQa4⟩
  exact hend t T (kr, ks, kb, x1, y1, x2, y2, x3, y3, x4, y4, Da1, Sa1, Qa1, Da2, Sa2, Qa2, Da3, Sa3, Qa3, Da4, Sa4, Qa4) _ _ ⟨(by omega), hT8⟩ hG_ hC ⟨X0, W0, V0, A0, B1, K0, Z, Y0, Y1, u, (by omega), hX0, hW0, hV0, hA0, hK0, hqX0, hmW0, hy0, hy1, hTie, hM⟩ hS
set_option maxHeartbeats 4000000 in
set_option maxRecDepth 100000 in
theorem law_c35 {pg_ : Program} {l : Launch} {ev_ : Env} {s : State} {mi_ : MethodId} {below_ : List Frame} {meth : Method} {cd_ : Code} {H : Heap} {locs : List Loc} {ls : Array Slot} {b L : Nat} {xs : Nat → Int32} {G : va_G} {k : Nat → ClassId} {tC tM aX aV : Nat → Nat} {h0 g0 : Nat} {i : Int32} {t : Int} {T : RwF} {g : Gs} (B0 : LB pg_ s mi_ meth cd_ b L xs l G k tC tM aX aV h0 g0) (hi : 0 ≤ i.toInt ∧ i.toInt + 6 ≤ L) (ht : (0 ≤ t ∧ t ≤ 400) ∧ ivP 400 (-128) 127 T) (hg : Gok g) (hC : Cs (eC l G k tC aX aV) t T g H) (hMs : Ms (eM l G k tM aX aV) t T g H) (hS : va_S (lawA s) s.heap H locs) (hl : lv_has ls 4 [(3, .int i), (2, .ref g0), (1, .ref h0), (0, .ref b)]) (hend : ∀ (t : Int) (T : RwF) (g : Gs) (H : Heap) (locs : List Loc), ((0 ≤ t ∧ t ≤ 400) ∧ ivP 400 (-128) 127 T) → Gok g → Cs (eC l G k tC aX aV) t T g H → Ms (eM l G k tM aX aV) t T g H → va_S (lawA s) s.heap H locs → W pg_ l ev_ room_1 s mi_ #[Value.ref b] below_ meth cd_ H locs 294 18964 (lw_Z below_ #[Value.ref b] s) (F0 mi_ 1529 ls [])) : W pg_ l ev_ room_1 s mi_ #[Value.ref b] below_ meth cd_ H locs 294 18964 (lw_Z below_ #[Value.ref b] s) (F0 mi_ 1255 ls []) := by
  obtain ⟨F, hK, hN, hOc, hOm, hX, hbl, hL, hTc, hTm, hdis, hh0, hg0⟩ := id B0
  obtain ⟨hx, hb, hr, hml, hown, hlk, hw, -⟩ := id F
  have hbA : ¬ lawA s b := fun q => absurd q (by unfold lawA; omega)
  obtain ⟨kr, ks, kb, x1, y1, x2, y2, x3, y3, x4, y4, Da1, Sa1, Qa1, Da2, Sa2, Qa2, Da3, Sa3, Qa3, Da4, Sa4, Qa4⟩ := g
  obtain ⟨X0, W0, V0, A0, B1, K0, Z, Y0, Y1, u, hu, hX0, hW0, hV0, hA0, hK0, hqX0, hmW0, hy0, hy1, hTie0, hM⟩ := hMs
  obtain ⟨ht, hT8⟩ := ht
  have hg : ((kr = [26] ∧ ks = [27]) ∨ (kr = [27] ∧ ks = [26])) ∧ (0 ≤ kb ∧ kb ≤ 3) ∧ (0 ≤ x1 ∧ x1 ≤ 12) ∧ (0 ≤ y1 ∧ y1 ≤ 14) ∧ (0 ≤ x2 ∧ x2 ≤ 12) ∧ (0 ≤ y2 ∧ y2 ≤ 14) ∧ (0 ≤ x3 ∧ x3 ≤ 12) ∧ (0 ≤ y3 ∧ y3 ≤ 14) ∧ (0 ≤ x4 ∧ x4 ≤ 12) ∧ (0 ≤ y4 ∧ y4 ≤ 14) ∧ ivP 12 (-2) 11 Da1 ∧ ivP 12 (-2147483648) 2147483647 Sa1 ∧ ivP 48 (-2147483648) 2147483647 Qa1 ∧ ivP 12 (-2) 11 Da2 ∧ ivP 12 (-2147483648) 2147483647 Sa2 ∧ ivP 48 (-2147483648) 2147483647 Qa2 ∧ ivP 12 (-2) 11 Da3 ∧ ivP 12 (-2147483648) 2147483647 Sa3 ∧ ivP 48 (-2147483648) 2147483647 Qa3 ∧ ivP 12 (-2) 11 Da4 ∧ ivP 12 (-2147483648) 2147483647 Sa4 ∧ ivP 48 (-2147483648) 2147483647 Qa4 := hg
  obtain ⟨hkk, hkb, hx1, hy1_, hx2, hy2_, hx3, hy3_, hx4, hy4_, hDa1, hSa1, hQa1, hDa2, hSa2, hQa2, hDa3, hSa3, hQa3, hDa4, hSa4, hQa4⟩ := hg
  have hC : TH (eC l G k tC aX aV) (tbC (dayD (.inl (0, 18))) (dayD (.inl (0, 18))) (riverD (.inl (x1, x1)) (.inl (y1, y1)) (.inl (0, 4)) 31 33 35 39 43 47) (riverD (.inl (x2, x2)) (.inl (y2, y2)) (.inl (0, 4)) 32 34 36 40 44 48) (rcD (.inl (t, t)) (.inr kr) (.inr ks) (.inl (kb, kb))) (rdD (.inl (0, 400)) (.inl (0, 400)) (.inl (0, 4000)) (.inl (0, 1)) (.inr [26, 27])) (xB 400 T) A14F A14F A4F A4F A14F A14F (riverD (.inl (x3, x3)) (.inl (y3, y3)) (.inl (0, 4)) 3 8 3 41 45 49) (riverD (.inl (x4, x4)) (.inl (y4, y4)) (.inl (0, 4)) 3 8 3 42 46 50) (xD 12 Da1) (xD 12 Da2) (xD 12 Da3) (xD 12 Da4) (xD 12 Sa1) (xD 12 Sa2) (xD 12 Sa3) (xD 12 Sa4) (xD 48 Qa1) (xD 48 Qa2) (xD 48 Qa3) (xD 48 Qa4)) H := hC
  have hTie : (kr = [26] → rowT x1 Da1 Sa1 Qa1 Z) ∧ (kr = [27] → rowT x2 Da2 Sa2 Qa2 Z) ∧ gI K0 0 = kb % 2 ∧ gI K0 1 = kb / 2 ∧ (kb % 2 = 1 → rowT x3 Da3 Sa3 Qa3 Y0) ∧ (kb / 2 = 1 → rowT x4 Da4 Sa4 Qa4 Y1) := hTie0
  clear hTie0
  have hk1 : (i + 1).toInt = i.toInt + 1 := by
    have h1 := i_add (x := i) (y := 1) (by rw [show (1 : Int32).toInt = 1 by decide]; omega) (by rw [show (1 : Int32).toInt = 1 by decide]; omega)
    rw [show (1 : Int32).toInt = 1 by decide] at h1
    exact h1
  refine lv_aload_n hx hb dL_law_1255 rfl (lv_at hl 2 rfl) ?_
  refine lv_aload_n hx hb dL_law_1256 rfl (lv_at hl 3 rfl) ?_
  refine lv_iload_n hx hb dL_law_1257 rfl (lv_at hl 0 rfl) ?_
  refine lv_iconst (v := 1) hx hb dL_law_1258 (by decide) ?_
  refine lv_iadd hx hb dL_law_1259 ?_
  refine va_sld hx hb hX hbl hbA hS (vinT (by rw [hk1]; omega)) dL_law_1260 ?_
  refine lv_topi (fun a1_0 ea1_0 => ?_)
  have hkr : ∀ t ∈ kr, t ∈ [26, 27] := by rcases hkk with ⟨h9_, -⟩ | ⟨h9_, -⟩ <;> rw [h9_] <;> decide
  have hks : ∀ t ∈ ks, t ∈ [26, 27] := by rcases hkk with ⟨-, h9_⟩ | ⟨-, h9_⟩ <;> rw [h9_] <;> decide
  refine lawVi (E := (eC l G k tC aX aV)) (b := h0) (As := [.int a1_0]) (rest := []) F hK hN hOc hTc (c_X6_dry (eC l G k tC aX aV) (rdD (.inl (0, 400)) (.inl (0, 400)) (.inl (0, 4000)) (.inl (0, 1)) (.inr [26, 27])) (xB 400 T) (kb, kb) (x1, x1) (y1, y1) (x2, x2) (y2, y2) (x3, x3) (y3, y3) (x4, x4) (y4, y4) kr ks (fun f_ => f_ = Da1) (fun f_ => f_ = Da2) (fun f_ => f_ = Da3) (fun f_ => f_ = Da4) (fun f_ => f_ = Sa1) (fun f_ => f_ = Sa2) (fun f_ => f_ = Sa3) (fun f_ => f_ = Sa4) (fun f_ => f_ = Qa1) (fun f_ => f_ = Qa2) (fun f_ => f_ = Qa3) (fun f_ => f_ = Qa4) t h0 a1_0 (List.mem_singleton.mpr hh0) (by omega) (by show 0 ≤ x1 ∧ x1 ≤ 12; omega) (by show 0 ≤ y1 ∧ y1 ≤ 14; omega) (by show 0 ≤ x2 ∧ x2 ≤ 12; omega) (by show 0 ≤ y2 ∧ y2 ≤ 14; omega) (by show 0 ≤ x3 ∧ x3 ≤ 12; omega) (by show 0 ≤ y3 ∧ y3 ≤ 14; omega) (by show 0 ≤ x4 ∧ x4 ≤ 12; omega) (by show 0 ≤ y4 ∧ y4 ≤ 14; omega) hkr hks (fun f_ h_ => ivX hDa1 h_) (fun f_ h_ => ivX hDa2 h_) (fun f_ h_ => ivX hDa3 h_) (fun f_ h_ => ivX hDa4 h_) (fun f_ h_ => ivX hSa1 h_) (fun f_ h_ => ivX hSa2 h_) (fun f_ h_ => ivX hSa3 h_) (fun f_ h_ => ivX hSa4 h_) (fun f_ h_ => ivX hQa1 h_) (fun f_ h_ => ivX hQa2 h_) (fun f_ h_ => ivX hQa3 h_) (fun f_ h_ => ivX hQa4 h_)) mv_X6_dry wd_56_19 ⟨Nat.le_of_ble_eq_true rfl, Nat.le_of_ble_eq_true rfl⟩ ⟨Nat.le_of_ble_eq_true rfl, Nat.le_of_ble_eq_true rfl⟩ hC hS (tRecv hK hC (by rw [show eT (eC l G k tC aX aV) h0 = 28 from hh0]; rfl) clX6) rfl hl.1 (Nat.le_of_ble_eq_true rfl) dL_law_1261 (fun v0 H1 locs hq hk_ hS => ?_)
  obtain ⟨f0_0, hN_⟩ := hq
  have hM := keptM hdis hM hk_
  have hC : TH (eC l G k tC aX aV) (tbC (dayD (.inl (0, 18))) (dayD (.inl (0, 18))) (riverD (.inl (x1, x1)) (.inl (y1, y1)) (.inl (0, 4)) 31 33 35 39 43 47) (riverD (.inl (x2, x2)) (.inl (y2, y2)) (.inl (0, 4)) 32 34 36 40 44 48) (rcD (.inl (t, t)) (.inr kr) (.inr ks) (.inl (kb, kb))) (rdD (.inl (0, 400)) (.inl (0, 400)) (.inl (0, 4000)) (.inl (0, 1)) (.inr [26, 27])) (xB 400 T) A14F A14F A4F A4F A14F A14F (riverD (.inl (x3, x3)) (.inl (y3, y3)) (.inl (0, 4)) 3 8 3 41 45 49) (riverD (.inl (x4, x4)) (.inl (y4, y4)) (.inl (0, 4)) 3 8 3 42 46 50) (xD 12 Da1) (xD 12 Da2) (xD 12 Da3) (xD 12 Da4) (xD 12 Sa1) (xD 12 Sa2) (xD 12 Sa3) (xD 12 Sa4) (xD 48 Qa1) (xD 48 Qa2) (xD 48 Qa3) (xD 48 Qa4)) H1 := hN_
  refine lv_pop hx hb dL_law_1264 rfl ?_
  refine lv_aload_n hx hb dL_law_1265 rfl (lv_at hl 1 rfl) ?_
  refine lv_aload_n hx hb dL_law_1266 rfl (lv_at hl 3 rfl) ?_
  refine lv_iload_n hx hb dL_law_1267 rfl (lv_at hl 0 rfl) ?_
  refine lv_iconst (v := 1) hx hb dL_law_1268 (by decide) ?_
  refine lv_iadd hx hb dL_law_1269 ?_
  refine va_sld hx hb hX hbl hbA hS (vinT (by rw [hk1]; omega)) dL_law_1270 ?_
  refine lv_topi (fun a1_1 ea1_1 => ?_)
  obtain rfl : a1_0 = a1_1 := ea1_0.trans ea1_1.symm
  refine lawVi (E := (eM l G k tM aX aV)) (b := g0) (As := [.int a1_0]) (rest := []) F hK hN hOm hTm (c_X7_dry (eM l G k tM aX aV) (xD 6600 W0) (xD 1320 V0) (xD 660 B1) (xB 400 T) (xZ 2 K0) (u, u) (((-2147483648), 2147483647)) (t, t) (((-2147483648), 2147483647)) (0, 4000) (((-2147483648), 2147483647)) (((-2147483648), 2147483647)) (0, 1) X0 A0 Z g0 a1_0 (List.mem_singleton.mpr hg0) hX0 hA0 hqX0) mv_X7_dry wd_57_3 ⟨Nat.le_of_ble_eq_true rfl, Nat.le_of_ble_eq_true rfl⟩ ⟨Nat.le_of_ble_eq_true rfl, Nat.le_of_ble_eq_true rfl⟩ hM hS (tRecv hK hM (by rw [show eT (eM l G k tM aX aV) g0 = 24 from hg0]; rfl) clX7) rfl hl.1 (Nat.le_of_ble_eq_true rfl) dL_law_1271 (fun v1 H1 locs hq hk_ hS => ?_)
  obtain ⟨X2_1, hX2_1, A2_1, hA2_1, f1_0, hN_⟩ := hq
  have hC := keptC hdis hC hk_
  have hM : TH (eM l G k tM aX aV) (tbM (mD (.inl (t, t)) (.inl (-2147483648, 2147483647)) (.inl (-2147483648, 2147483647)) (.inl (u, u)) (.inl (0, 18)) (.inl (-2147483648, 2147483647)) (.inl (0, 4000)) (.inl (-2147483648, 2147483647)) (.inl (0, 1))) (xD 660 X2_1) (xD 6600 W0) (xD 1320 V0) (xD 660 A2_1) (xD 660 B1) m_second (xB 400 T) (xZ 2 K0)) H1 := hN_
  refine lv_pop hx hb dL_law_1274 rfl ?_
  refine lv_goto (tgt := 1529) hx hb dL_law_1275 (by decide) ?_
  have hG_ : ((kr = [26] ∧ ks = [27]) ∨ (kr = [27] ∧ ks = [26])) ∧ (0 ≤ kb ∧ kb ≤ 3) ∧ (0 ≤ x1 ∧ x1 ≤ 12) ∧ (0 ≤ y1 ∧ y1 ≤ 14) ∧ (0 ≤ x2 ∧ x2 ≤ 12) ∧ (0 ≤ y2 ∧ y2 ≤ 14) ∧ (0 ≤ x3 ∧ x3 ≤ 12) ∧ (0 ≤ y3 ∧ y3 ≤ 14) ∧ (0 ≤ x4 ∧ x4 ≤ 12) ∧ (0 ≤ y4 ∧ y4 ≤ 14) ∧ ivP 12 (-2) 11 Da1 ∧ ivP 12 (-2147483648) 2147483647 Sa1 ∧ ivP 48 (-2147483648) 2147483647 Qa1 ∧ ivP 12 (-2) 11 Da2 ∧ ivP 12 (-2147483648) 2147483647 Sa2 ∧ ivP 48 (-2147483648) 2147483647 Qa2 ∧ ivP 12 (-2) 11 Da3 ∧ ivP 12 (-2147483648) 2147483647 Sa3 ∧ ivP 48 (-2147483648) 2147483647 Qa3 ∧ ivP 12 (-2) 11 Da4 ∧ ivP 12 (-2147483648) 2147483647 Sa4 ∧ ivP 48 (-2147483648) 2147483647 Qa4 := ⟨hkk, (by omega), (by omega), (by omega), (by omega), (by omega), (by omega), (by omega), (by omega), (by omega), hDa1, hSa1, hQa1, hDa2, hSa2, hQa2, hDa3, hSa3, hQa3, hDa4, hSa4, hQa4⟩
  exact hend t T (kr, ks, kb, x1, y1, x2, y2, x3, y3, x4, y4, Da1, Sa1, Qa1, Da2, Sa2, Qa2, Da3, Sa3, Qa3, Da4, Sa4, Qa4) _ _ ⟨(by omega), hT8⟩ hG_ hC ⟨X2_1, W0, V0, A2_1, B1, K0, Z, Y0, Y1, u, (by omega), hX2_1.1, hW0, hV0, hA2_1, hK0, hX2_1.2, hmW0, hy0, hy1, hTie, hM⟩ hS
set_option maxHeartbeats 4000000 in
set_option maxRecDepth 100000 in
theorem law_c36 {pg_ : Program} {l : Launch} {ev_ : Env} {s : State} {mi_ : MethodId} {below_ : List Frame} {meth : Method} {cd_ : Code} {H : Heap} {locs : List Loc} {ls : Array Slot} {b L : Nat} {xs : Nat → Int32} {G : va_G} {k : Nat → ClassId} {tC tM aX aV : Nat → Nat} {h0 g0 : Nat} {i : Int32} {t : Int} {T : RwF} {g : Gs} (B0 : LB pg_ s mi_ meth cd_ b L xs l G k tC tM aX aV h0 g0) (hi : 0 ≤ i.toInt ∧ i.toInt + 6 ≤ L) (ht : (0 ≤ t ∧ t ≤ 400) ∧ ivP 400 (-128) 127 T) (hg : Gok g) (hC : Cs (eC l G k tC aX aV) t T g H) (hMs : Ms (eM l G k tM aX aV) t T g H) (hS : va_S (lawA s) s.heap H locs) (hl : lv_has ls 4 [(3, .int i), (2, .ref g0), (1, .ref h0), (0, .ref b)]) (hend : ∀ (t : Int) (T : RwF) (g : Gs) (H : Heap) (locs : List Loc), ((0 ≤ t ∧ t ≤ 400) ∧ ivP 400 (-128) 127 T) → Gok g → Cs (eC l G k tC aX aV) t T g H → Ms (eM l G k tM aX aV) t T g H → va_S (lawA s) s.heap H locs → W pg_ l ev_ room_1 s mi_ #[Value.ref b] below_ meth cd_ H locs 294 18964 (lw_Z below_ #[Value.ref b] s) (F0 mi_ 1529 ls [])) : W pg_ l ev_ room_1 s mi_ #[Value.ref b] below_ meth cd_ H locs 294 18964 (lw_Z below_ #[Value.ref b] s) (F0 mi_ 1278 ls []) := by
  obtain ⟨F, hK, hN, hOc, hOm, hX, hbl, hL, hTc, hTm, hdis, hh0, hg0⟩ := id B0
  obtain ⟨hx, hb, hr, hml, hown, hlk, hw, -⟩ := id F
  have hbA : ¬ lawA s b := fun q => absurd q (by unfold lawA; omega)
  obtain ⟨kr, ks, kb, x1, y1, x2, y2, x3, y3, x4, y4, Da1, Sa1, Qa1, Da2, Sa2, Qa2, Da3, Sa3, Qa3, Da4, Sa4, Qa4⟩ := g
  obtain ⟨X0, W0, V0, A0, B1, K0, Z, Y0, Y1, u, hu, hX0, hW0, hV0, hA0, hK0, hqX0, hmW0, hy0, hy1, hTie0, hM⟩ := hMs
  obtain ⟨ht, hT8⟩ := ht
  have hg : ((kr = [26] ∧ ks = [27]) ∨ (kr = [27] ∧ ks = [26])) ∧ (0 ≤ kb ∧ kb ≤ 3) ∧ (0 ≤ x1 ∧ x1 ≤ 12) ∧ (0 ≤ y1 ∧ y1 ≤ 14) ∧ (0 ≤ x2 ∧ x2 ≤ 12) ∧ (0 ≤ y2 ∧ y2 ≤ 14) ∧ (0 ≤ x3 ∧ x3 ≤ 12) ∧ (0 ≤ y3 ∧ y3 ≤ 14) ∧ (0 ≤ x4 ∧ x4 ≤ 12) ∧ (0 ≤ y4 ∧ y4 ≤ 14) ∧ ivP 12 (-2) 11 Da1 ∧ ivP 12 (-2147483648) 2147483647 Sa1 ∧ ivP 48 (-2147483648) 2147483647 Qa1 ∧ ivP 12 (-2) 11 Da2 ∧ ivP 12 (-2147483648) 2147483647 Sa2 ∧ ivP 48 (-2147483648) 2147483647 Qa2 ∧ ivP 12 (-2) 11 Da3 ∧ ivP 12 (-2147483648) 2147483647 Sa3 ∧ ivP 48 (-2147483648) 2147483647 Qa3 ∧ ivP 12 (-2) 11 Da4 ∧ ivP 12 (-2147483648) 2147483647 Sa4 ∧ ivP 48 (-2147483648) 2147483647 Qa4 := hg
  obtain ⟨hkk, hkb, hx1, hy1_, hx2, hy2_, hx3, hy3_, hx4, hy4_, hDa1, hSa1, hQa1, hDa2, hSa2, hQa2, hDa3, hSa3, hQa3, hDa4, hSa4, hQa4⟩ := hg
  have hC : TH (eC l G k tC aX aV) (tbC (dayD (.inl (0, 18))) (dayD (.inl (0, 18))) (riverD (.inl (x1, x1)) (.inl (y1, y1)) (.inl (0, 4)) 31 33 35 39 43 47) (riverD (.inl (x2, x2)) (.inl (y2, y2)) (.inl (0, 4)) 32 34 36 40 44 48) (rcD (.inl (t, t)) (.inr kr) (.inr ks) (.inl (kb, kb))) (rdD (.inl (0, 400)) (.inl (0, 400)) (.inl (0, 4000)) (.inl (0, 1)) (.inr [26, 27])) (xB 400 T) A14F A14F A4F A4F A14F A14F (riverD (.inl (x3, x3)) (.inl (y3, y3)) (.inl (0, 4)) 3 8 3 41 45 49) (riverD (.inl (x4, x4)) (.inl (y4, y4)) (.inl (0, 4)) 3 8 3 42 46 50) (xD 12 Da1) (xD 12 Da2) (xD 12 Da3) (xD 12 Da4) (xD 12 Sa1) (xD 12 Sa2) (xD 12 Sa3) (xD 12 Sa4) (xD 48 Qa1) (xD 48 Qa2) (xD 48 Qa3) (xD 48 Qa4)) H := hC
  have hTie : (kr = [26] → rowT x1 Da1 Sa1 Qa1 Z) ∧ (kr = [27] → rowT x2 Da2 Sa2 Qa2 Z) ∧ gI K0 0 = kb % 2 ∧ gI K0 1 = kb / 2 ∧ (kb % 2 = 1 → rowT x3 Da3 Sa3 Qa3 Y0) ∧ (kb / 2 = 1 → rowT x4 Da4 Sa4 Qa4 Y1) := hTie0
  clear hTie0
  have hk1 : (i + 1).toInt = i.toInt + 1 := by
    have h1 := i_add (x := i) (y := 1) (by rw [show (1 : Int32).toInt = 1 by decide]; omega) (by rw [show (1 : Int32).toInt = 1 by decide]; omega)
    rw [show (1 : Int32).toInt = 1 by decide] at h1
    exact h1
  have hk2 : (i + 2).toInt = i.toInt + 2 := by
    have h1 := i_add (x := i) (y := 2) (by rw [show (2 : Int32).toInt = 2 by decide]; omega) (by rw [show (2 : Int32).toInt = 2 by decide]; omega)
    rw [show (2 : Int32).toInt = 2 by decide] at h1
    exact h1
  refine lv_aload_n hx hb dL_law_1278 rfl (lv_at hl 2 rfl) ?_
  refine lv_aload_n hx hb dL_law_1279 rfl (lv_at hl 3 rfl) ?_
  refine lv_iload_n hx hb dL_law_1280 rfl (lv_at hl 0 rfl) ?_
  refine lv_iconst (v := 1) hx hb dL_law_1281 (by decide) ?_
  refine lv_iadd hx hb dL_law_1282 ?_
  refine va_sld hx hb hX hbl hbA hS (vinT (by rw [hk1]; omega)) dL_law_1283 ?_
  refine lv_topi (fun a1_0 ea1_0 => ?_)
  refine lv_aload_n hx hb dL_law_1284 rfl (lv_at hl 3 rfl) ?_
  refine lv_iload_n hx hb dL_law_1285 rfl (lv_at hl 0 rfl) ?_
  refine lv_iconst (v := 2) hx hb dL_law_1286 (by decide) ?_
  refine lv_iadd hx hb dL_law_1287 ?_
  refine va_sld hx hb hX hbl hbA hS (vinT (by rw [hk2]; omega)) dL_law_1288 ?_
  refine lv_topi (fun a2_0 ea2_0 => ?_)
  have hkr : ∀ t ∈ kr, t ∈ [26, 27] := by rcases hkk with ⟨h9_, -⟩ | ⟨h9_, -⟩ <;> rw [h9_] <;> decide
  have hks : ∀ t ∈ ks, t ∈ [26, 27] := by rcases hkk with ⟨-, h9_⟩ | ⟨-, h9_⟩ <;> rw [h9_] <;> decide
  refine lawVi (E := (eC l G k tC aX aV)) (b := h0) (As := [.int a1_0, .int a2_0]) (rest := []) F hK hN hOc hTc (c_X6_full (eC l G k tC aX aV) (rdD (.inl (0, 400)) (.inl (0, 400)) (.inl (0, 4000)) (.inl (0, 1)) (.inr [26, 27])) (xB 400 T) (kb, kb) (x1, x1) (y1, y1) (x2, x2) (y2, y2) (x3, x3) (y3, y3) (x4, x4) (y4, y4) kr ks (fun f_ => f_ = Da1) (fun f_ => f_ = Da2) (fun f_ => f_ = Da3) (fun f_ => f_ = Da4) (fun f_ => f_ = Sa1) (fun f_ => f_ = Sa2) (fun f_ => f_ = Sa3) (fun f_ => f_ = Sa4) (fun f_ => f_ = Qa1) (fun f_ => f_ = Qa2) (fun f_ => f_ = Qa3) (fun f_ => f_ = Qa4) t h0 a1_0 a2_0 (List.mem_singleton.mpr hh0) (by omega) (by show 0 ≤ x1 ∧ x1 ≤ 12; omega) (by show 0 ≤ y1 ∧ y1 ≤ 14; omega) (by show 0 ≤ x2 ∧ x2 ≤ 12; omega) (by show 0 ≤ y2 ∧ y2 ≤ 14; omega) (by show 0 ≤ x3 ∧ x3 ≤ 12; omega) (by show 0 ≤ y3 ∧ y3 ≤ 14; omega) (by show 0 ≤ x4 ∧ x4 ≤ 12; omega) (by show 0 ≤ y4 ∧ y4 ≤ 14; omega) hkr hks (fun f_ h_ => ivX hDa1 h_) (fun f_ h_ => ivX hDa2 h_) (fun f_ h_ => ivX hDa3 h_) (fun f_ h_ => ivX hDa4 h_) (fun f_ h_ => ivX hSa1 h_) (fun f_ h_ => ivX hSa2 h_) (fun f_ h_ => ivX hSa3 h_) (fun f_ h_ => ivX hSa4 h_) (fun f_ h_ => ivX hQa1 h_) (fun f_ h_ => ivX hQa2 h_) (fun f_ h_ => ivX hQa3 h_) (fun f_ h_ => ivX hQa4 h_)) mv_X6_full wd_57_12 ⟨Nat.le_of_ble_eq_true rfl, Nat.le_of_ble_eq_true rfl⟩ ⟨Nat.le_of_ble_eq_true rfl, Nat.le_of_ble_eq_true rfl⟩ hC hS (tRecv hK hC (by rw [show eT (eC l G k tC aX aV) h0 = 28 from hh0]; rfl) clX6) rfl hl.1 (Nat.le_of_ble_eq_true rfl) dL_law_1289 (fun v0 H1 locs hq hk_ hS => ?_)
  obtain ⟨f0_0, hN_⟩ := hq
  have hM := keptM hdis hM hk_
  have hC : TH (eC l G k tC aX aV) (tbC (dayD (.inl (0, 18))) (dayD (.inl (0, 18))) (riverD (.inl (x1, x1)) (.inl (y1, y1)) (.inl (0, 4)) 31 33 35 39 43 47) (riverD (.inl (x2, x2)) (.inl (y2, y2)) (.inl (0, 4)) 32 34 36 40 44 48) (rcD (.inl (t, t)) (.inr kr) (.inr ks) (.inl (kb, kb))) (rdD (.inl (0, 400)) (.inl (0, 400)) (.inl (0, 4000)) (.inl (0, 1)) (.inr [26, 27])) (xB 400 T) A14F A14F A4F A4F A14F A14F (riverD (.inl (x3, x3)) (.inl (y3, y3)) (.inl (0, 4)) 3 8 3 41 45 49) (riverD (.inl (x4, x4)) (.inl (y4, y4)) (.inl (0, 4)) 3 8 3 42 46 50) (xD 12 Da1) (xD 12 Da2) (xD 12 Da3) (xD 12 Da4) (xD 12 Sa1) (xD 12 Sa2) (xD 12 Sa3) (xD 12 Sa4) (xD 48 Qa1) (xD 48 Qa2) (xD 48 Qa3) (xD 48 Qa4)) H1 := hN_
  refine lv_pop hx hb dL_law_1292 rfl ?_
  refine lv_aload_n hx hb dL_law_1293 rfl (lv_at hl 1 rfl) ?_
  refine lv_aload_n hx hb dL_law_1294 rfl (lv_at hl 3 rfl) ?_
  refine lv_iload_n hx hb dL_law_1295 rfl (lv_at hl 0 rfl) ?_
  refine lv_iconst (v := 1) hx hb dL_law_1296 (by decide) ?_
  refine lv_iadd hx hb dL_law_1297 ?_
  refine va_sld hx hb hX hbl hbA hS (vinT (by rw [hk1]; omega)) dL_law_1298 ?_
  refine lv_topi (fun a1_1 ea1_1 => ?_)
  obtain rfl : a1_0 = a1_1 := ea1_0.trans ea1_1.symm
  refine lv_aload_n hx hb dL_law_1299 rfl (lv_at hl 3 rfl) ?_
  refine lv_iload_n hx hb dL_law_1300 rfl (lv_at hl 0 rfl) ?_
  refine lv_iconst (v := 2) hx hb dL_law_1301 (by decide) ?_
  refine lv_iadd hx hb dL_law_1302 ?_
  refine va_sld hx hb hX hbl hbA hS (vinT (by rw [hk2]; omega)) dL_law_1303 ?_
  refine lv_topi (fun a2_1 ea2_1 => ?_)
  obtain rfl : a2_0 = a2_1 := ea2_0.trans ea2_1.symm
  refine lawVi (E := (eM l G k tM aX aV)) (b := g0) (As := [.int a1_0, .int a2_0]) (rest := []) F hK hN hOm hTm (c_X7_full (eM l G k tM aX aV) (xD 6600 W0) (xD 1320 V0) (xD 660 B1) (xB 400 T) (xZ 2 K0) (u, u) (((-2147483648), 2147483647)) (t, t) (((-2147483648), 2147483647)) (0, 4000) (((-2147483648), 2147483647)) (((-2147483648), 2147483647)) (0, 1) X0 A0 Z g0 a1_0 a2_0 (List.mem_singleton.mpr hg0) hX0 hA0 hqX0) mv_X7_full wd_57_21 ⟨Nat.le_of_ble_eq_true rfl, Nat.le_of_ble_eq_true rfl⟩ ⟨Nat.le_of_ble_eq_true rfl, Nat.le_of_ble_eq_true rfl⟩ hM hS (tRecv hK hM (by rw [show eT (eM l G k tM aX aV) g0 = 24 from hg0]; rfl) clX7) rfl hl.1 (Nat.le_of_ble_eq_true rfl) dL_law_1304 (fun v1 H1 locs hq hk_ hS => ?_)
  obtain ⟨X2_1, hX2_1, A2_1, hA2_1, f1_0, hN_⟩ := hq
  have hC := keptC hdis hC hk_
  have hM : TH (eM l G k tM aX aV) (tbM (mD (.inl (t, t)) (.inl (-2147483648, 2147483647)) (.inl (-2147483648, 2147483647)) (.inl (u, u)) (.inl (0, 18)) (.inl (-2147483648, 2147483647)) (.inl (0, 4000)) (.inl (-2147483648, 2147483647)) (.inl (0, 1))) (xD 660 X2_1) (xD 6600 W0) (xD 1320 V0) (xD 660 A2_1) (xD 660 B1) m_second (xB 400 T) (xZ 2 K0)) H1 := hN_
  refine lv_pop hx hb dL_law_1307 rfl ?_
  refine lv_goto (tgt := 1529) hx hb dL_law_1308 (by decide) ?_
  have hG_ : ((kr = [26] ∧ ks = [27]) ∨ (kr = [27] ∧ ks = [26])) ∧ (0 ≤ kb ∧ kb ≤ 3) ∧ (0 ≤ x1 ∧ x1 ≤ 12) ∧ (0 ≤ y1 ∧ y1 ≤ 14) ∧ (0 ≤ x2 ∧ x2 ≤ 12) ∧ (0 ≤ y2 ∧ y2 ≤ 14) ∧ (0 ≤ x3 ∧ x3 ≤ 12) ∧ (0 ≤ y3 ∧ y3 ≤ 14) ∧ (0 ≤ x4 ∧ x4 ≤ 12) ∧ (0 ≤ y4 ∧ y4 ≤ 14) ∧ ivP 12 (-2) 11 Da1 ∧ ivP 12 (-2147483648) 2147483647 Sa1 ∧ ivP 48 (-2147483648) 2147483647 Qa1 ∧ ivP 12 (-2) 11 Da2 ∧ ivP 12 (-2147483648) 2147483647 Sa2 ∧ ivP 48 (-2147483648) 2147483647 Qa2 ∧ ivP 12 (-2) 11 Da3 ∧ ivP 12 (-2147483648) 2147483647 Sa3 ∧ ivP 48 (-2147483648) 2147483647 Qa3 ∧ ivP 12 (-2) 11 Da4 ∧ ivP 12 (-2147483648) 2147483647 Sa4 ∧ ivP 48 (-2147483648) 2147483647 Qa4 := ⟨hkk, (by omega), (by omega), (by omega), (by omega), (by omega), (by omega), (by omega), (by omega), (by omega), hDa1, hSa1, hQa1, hDa2, hSa2, hQa2, hDa3, hSa3, hQa3, hDa4, hSa4, hQa4⟩
  exact hend t T (kr, ks, kb, x1, y1, x2, y2, x3, y3, x4, y4, Da1, Sa1, Qa1, Da2, Sa2, Qa2, Da3, Sa3, Qa3, Da4, Sa4, Qa4) _ _ ⟨(by omega), hT8⟩ hG_ hC ⟨X2_1, W0, V0, A2_1, B1, K0, Z, Y0, Y1, u, (by omega), hX2_1.1, hW0, hV0, hA2_1, hK0, hX2_1.2, hmW0, hy0, hy1, hTie, hM⟩ hS
set_option maxHeartbeats 4000000 in
set_option maxRecDepth 100000 in
theorem law_c37 {pg_ : Program} {l : Launch} {ev_ : Env} {s : State} {mi_ : MethodId} {below_ : List Frame} {meth : Method} {cd_ : Code} {H : Heap} {locs : List Loc} {ls : Array Slot} {b L : Nat} {xs : Nat → Int32} {G : va_G} {k : Nat → ClassId} {tC tM aX aV : Nat → Nat} {h0 g0 : Nat} {i : Int32} {t : Int} {T : RwF} {g : Gs} (B0 : LB pg_ s mi_ meth cd_ b L xs l G k tC tM aX aV h0 g0) (hi : 0 ≤ i.toInt ∧ i.toInt + 6 ≤ L) (ht : (0 ≤ t ∧ t ≤ 400) ∧ ivP 400 (-128) 127 T) (hg : Gok g) (hC : Cs (eC l G k tC aX aV) t T g H) (hMs : Ms (eM l G k tM aX aV) t T g H) (hS : va_S (lawA s) s.heap H locs) (hl : lv_has ls 4 [(3, .int i), (2, .ref g0), (1, .ref h0), (0, .ref b)]) (hend : ∀ (t : Int) (T : RwF) (g : Gs) (H : Heap) (locs : List Loc), ((0 ≤ t ∧ t ≤ 400) ∧ ivP 400 (-128) 127 T) → Gok g → Cs (eC l G k tC aX aV) t T g H → Ms (eM l G k tM aX aV) t T g H → va_S (lawA s) s.heap H locs → W pg_ l ev_ room_1 s mi_ #[Value.ref b] below_ meth cd_ H locs 294 18964 (lw_Z below_ #[Value.ref b] s) (F0 mi_ 1529 ls [])) : W pg_ l ev_ room_1 s mi_ #[Value.ref b] below_ meth cd_ H locs 294 18964 (lw_Z below_ #[Value.ref b] s) (F0 mi_ 1311 ls []) := by
  obtain ⟨F, hK, hN, hOc, hOm, hX, hbl, hL, hTc, hTm, hdis, hh0, hg0⟩ := id B0
  obtain ⟨hx, hb, hr, hml, hown, hlk, hw, -⟩ := id F
  have hbA : ¬ lawA s b := fun q => absurd q (by unfold lawA; omega)
  obtain ⟨kr, ks, kb, x1, y1, x2, y2, x3, y3, x4, y4, Da1, Sa1, Qa1, Da2, Sa2, Qa2, Da3, Sa3, Qa3, Da4, Sa4, Qa4⟩ := g
  obtain ⟨X0, W0, V0, A0, B1, K0, Z, Y0, Y1, u, hu, hX0, hW0, hV0, hA0, hK0, hqX0, hmW0, hy0, hy1, hTie0, hM⟩ := hMs
  obtain ⟨ht, hT8⟩ := ht
  have hg : ((kr = [26] ∧ ks = [27]) ∨ (kr = [27] ∧ ks = [26])) ∧ (0 ≤ kb ∧ kb ≤ 3) ∧ (0 ≤ x1 ∧ x1 ≤ 12) ∧ (0 ≤ y1 ∧ y1 ≤ 14) ∧ (0 ≤ x2 ∧ x2 ≤ 12) ∧ (0 ≤ y2 ∧ y2 ≤ 14) ∧ (0 ≤ x3 ∧ x3 ≤ 12) ∧ (0 ≤ y3 ∧ y3 ≤ 14) ∧ (0 ≤ x4 ∧ x4 ≤ 12) ∧ (0 ≤ y4 ∧ y4 ≤ 14) ∧ ivP 12 (-2) 11 Da1 ∧ ivP 12 (-2147483648) 2147483647 Sa1 ∧ ivP 48 (-2147483648) 2147483647 Qa1 ∧ ivP 12 (-2) 11 Da2 ∧ ivP 12 (-2147483648) 2147483647 Sa2 ∧ ivP 48 (-2147483648) 2147483647 Qa2 ∧ ivP 12 (-2) 11 Da3 ∧ ivP 12 (-2147483648) 2147483647 Sa3 ∧ ivP 48 (-2147483648) 2147483647 Qa3 ∧ ivP 12 (-2) 11 Da4 ∧ ivP 12 (-2147483648) 2147483647 Sa4 ∧ ivP 48 (-2147483648) 2147483647 Qa4 := hg
  obtain ⟨hkk, hkb, hx1, hy1_, hx2, hy2_, hx3, hy3_, hx4, hy4_, hDa1, hSa1, hQa1, hDa2, hSa2, hQa2, hDa3, hSa3, hQa3, hDa4, hSa4, hQa4⟩ := hg
  have hC : TH (eC l G k tC aX aV) (tbC (dayD (.inl (0, 18))) (dayD (.inl (0, 18))) (riverD (.inl (x1, x1)) (.inl (y1, y1)) (.inl (0, 4)) 31 33 35 39 43 47) (riverD (.inl (x2, x2)) (.inl (y2, y2)) (.inl (0, 4)) 32 34 36 40 44 48) (rcD (.inl (t, t)) (.inr kr) (.inr ks) (.inl (kb, kb))) (rdD (.inl (0, 400)) (.inl (0, 400)) (.inl (0, 4000)) (.inl (0, 1)) (.inr [26, 27])) (xB 400 T) A14F A14F A4F A4F A14F A14F (riverD (.inl (x3, x3)) (.inl (y3, y3)) (.inl (0, 4)) 3 8 3 41 45 49) (riverD (.inl (x4, x4)) (.inl (y4, y4)) (.inl (0, 4)) 3 8 3 42 46 50) (xD 12 Da1) (xD 12 Da2) (xD 12 Da3) (xD 12 Da4) (xD 12 Sa1) (xD 12 Sa2) (xD 12 Sa3) (xD 12 Sa4) (xD 48 Qa1) (xD 48 Qa2) (xD 48 Qa3) (xD 48 Qa4)) H := hC
  have hTie : (kr = [26] → rowT x1 Da1 Sa1 Qa1 Z) ∧ (kr = [27] → rowT x2 Da2 Sa2 Qa2 Z) ∧ gI K0 0 = kb % 2 ∧ gI K0 1 = kb / 2 ∧ (kb % 2 = 1 → rowT x3 Da3 Sa3 Qa3 Y0) ∧ (kb / 2 = 1 → rowT x4 Da4 Sa4 Qa4 Y1) := hTie0
  clear hTie0
  have hk1 : (i + 1).toInt = i.toInt + 1 := by
    have h1 := i_add (x := i) (y := 1) (by rw [show (1 : Int32).toInt = 1 by decide]; omega) (by rw [show (1 : Int32).toInt = 1 by decide]; omega)
    rw [show (1 : Int32).toInt = 1 by decide] at h1
    exact h1
  have hk2 : (i + 2).toInt = i.toInt + 2 := by
    have h1 := i_add (x := i) (y := 2) (by rw [show (2 : Int32).toInt = 2 by decide]; omega) (by rw [show (2 : Int32).toInt = 2 by decide]; omega)
    rw [show (2 : Int32).toInt = 2 by decide] at h1
    exact h1
  have hk3 : (i + 3).toInt = i.toInt + 3 := by
    have h1 := i_add (x := i) (y := 3) (by rw [show (3 : Int32).toInt = 3 by decide]; omega) (by rw [show (3 : Int32).toInt = 3 by decide]; omega)
    rw [show (3 : Int32).toInt = 3 by decide] at h1
    exact h1
  have hk4 : (i + 4).toInt = i.toInt + 4 := by
    have h1 := i_add (x := i) (y := 4) (by rw [show (4 : Int32).toInt = 4 by decide]; omega) (by rw [show (4 : Int32).toInt = 4 by decide]; omega)
    rw [show (4 : Int32).toInt = 4 by decide] at h1
    exact h1
  refine lv_aload_n hx hb dL_law_1311 rfl (lv_at hl 2 rfl) ?_
  refine lv_aload_n hx hb dL_law_1312 rfl (lv_at hl 3 rfl) ?_
  refine lv_iload_n hx hb dL_law_1313 rfl (lv_at hl 0 rfl) ?_
  refine lv_iconst (v := 1) hx hb dL_law_1314 (by decide) ?_
  refine lv_iadd hx hb dL_law_1315 ?_
  refine va_sld hx hb hX hbl hbA hS (vinT (by rw [hk1]; omega)) dL_law_1316 ?_
  refine lv_topi (fun a1_0 ea1_0 => ?_)
  refine lv_aload_n hx hb dL_law_1317 rfl (lv_at hl 3 rfl) ?_
  refine lv_iload_n hx hb dL_law_1318 rfl (lv_at hl 0 rfl) ?_
  refine lv_iconst (v := 2) hx hb dL_law_1319 (by decide) ?_
  refine lv_iadd hx hb dL_law_1320 ?_
  refine va_sld hx hb hX hbl hbA hS (vinT (by rw [hk2]; omega)) dL_law_1321 ?_
  refine lv_topi (fun a2_0 ea2_0 => ?_)
  refine lv_aload_n hx hb dL_law_1322 rfl (lv_at hl 3 rfl) ?_
  refine lv_iload_n hx hb dL_law_1323 rfl (lv_at hl 0 rfl) ?_
  refine lv_iconst (v := 3) hx hb dL_law_1324 (by decide) ?_
  refine lv_iadd hx hb dL_law_1325 ?_
  refine va_sld hx hb hX hbl hbA hS (vinT (by rw [hk3]; omega)) dL_law_1326 ?_
  refine lv_topi (fun a3_0 ea3_0 => ?_)
  refine lv_aload_n hx hb dL_law_1327 rfl (lv_at hl 3 rfl) ?_
  refine lv_iload_n hx hb dL_law_1328 rfl (lv_at hl 0 rfl) ?_
  refine lv_iconst (v := 4) hx hb dL_law_1329 (by decide) ?_
  refine lv_iadd hx hb dL_law_1330 ?_
  refine va_sld hx hb hX hbl hbA hS (vinT (by rw [hk4]; omega)) dL_law_1331 ?_
  refine lv_topi (fun a4_0 ea4_0 => ?_)
  have hkr : ∀ t ∈ kr, t ∈ [26, 27] := by rcases hkk with ⟨h9_, -⟩ | ⟨h9_, -⟩ <;> rw [h9_] <;> decide
  have hks : ∀ t ∈ ks, t ∈ [26, 27] := by rcases hkk with ⟨-, h9_⟩ | ⟨-, h9_⟩ <;> rw [h9_] <;> decide
  refine lawVi (E := (eC l G k tC aX aV)) (b := h0) (As := [.int a1_0, .int a2_0, .int a3_0, .int a4_0]) (rest := []) F hK hN hOc hTc (c_X6_swap (eC l G k tC aX aV) (rdD (.inl (0, 400)) (.inl (0, 400)) (.inl (0, 4000)) (.inl (0, 1)) (.inr [26, 27])) (xB 400 T) (kb, kb) (x1, x1) (y1, y1) (x2, x2) (y2, y2) (x3, x3) (y3, y3) (x4, x4) (y4, y4) kr ks (fun f_ => f_ = Da1) (fun f_ => f_ = Da2) (fun f_ => f_ = Da3) (fun f_ => f_ = Da4) (fun f_ => f_ = Sa1) (fun f_ => f_ = Sa2) (fun f_ => f_ = Sa3) (fun f_ => f_ = Sa4) (fun f_ => f_ = Qa1) (fun f_ => f_ = Qa2) (fun f_ => f_ = Qa3) (fun f_ => f_ = Qa4) t h0 a1_0 a2_0 a3_0 a4_0 (List.mem_singleton.mpr hh0) (by omega) (by show 0 ≤ x1 ∧ x1 ≤ 12; omega) (by show 0 ≤ y1 ∧ y1 ≤ 14; omega) (by show 0 ≤ x2 ∧ x2 ≤ 12; omega) (by show 0 ≤ y2 ∧ y2 ≤ 14; omega) (by show 0 ≤ x3 ∧ x3 ≤ 12; omega) (by show 0 ≤ y3 ∧ y3 ≤ 14; omega) (by show 0 ≤ x4 ∧ x4 ≤ 12; omega) (by show 0 ≤ y4 ∧ y4 ≤ 14; omega) hkr hks (fun f_ h_ => ivX hDa1 h_) (fun f_ h_ => ivX hDa2 h_) (fun f_ h_ => ivX hDa3 h_) (fun f_ h_ => ivX hDa4 h_) (fun f_ h_ => ivX hSa1 h_) (fun f_ h_ => ivX hSa2 h_) (fun f_ h_ => ivX hSa3 h_) (fun f_ h_ => ivX hSa4 h_) (fun f_ h_ => ivX hQa1 h_) (fun f_ h_ => ivX hQa2 h_) (fun f_ h_ => ivX hQa3 h_) (fun f_ h_ => ivX hQa4 h_)) mv_X6_swap wd_58_1 ⟨Nat.le_of_ble_eq_true rfl, Nat.le_of_ble_eq_true rfl⟩ ⟨Nat.le_of_ble_eq_true rfl, Nat.le_of_ble_eq_true rfl⟩ hC hS (tRecv hK hC (by rw [show eT (eC l G k tC aX aV) h0 = 28 from hh0]; rfl) clX6) rfl hl.1 (Nat.le_of_ble_eq_true rfl) dL_law_1332 (fun v0 H1 locs hq hk_ hS => ?_)
  obtain ⟨f0_0, hN_⟩ := hq
  have hM := keptM hdis hM hk_
  have hC : TH (eC l G k tC aX aV) (tbC (dayD (.inl (0, 18))) (dayD (.inl (0, 18))) (riverD (.inl (x1, x1)) (.inl (y1, y1)) (.inl (0, 4)) 31 33 35 39 43 47) (riverD (.inl (x2, x2)) (.inl (y2, y2)) (.inl (0, 4)) 32 34 36 40 44 48) (rcD (.inl (t, t)) (.inr kr) (.inr ks) (.inl (kb, kb))) (rdD (.inl (0, 400)) (.inl (0, 400)) (.inl (0, 4000)) (.inl (0, 1)) (.inr [26, 27])) (xB 400 T) A14F A14F A4F A4F A14F A14F (riverD (.inl (x3, x3)) (.inl (y3, y3)) (.inl (0, 4)) 3 8 3 41 45 49) (riverD (.inl (x4, x4)) (.inl (y4, y4)) (.inl (0, 4)) 3 8 3 42 46 50) (xD 12 Da1) (xD 12 Da2) (xD 12 Da3) (xD 12 Da4) (xD 12 Sa1) (xD 12 Sa2) (xD 12 Sa3) (xD 12 Sa4) (xD 48 Qa1) (xD 48 Qa2) (xD 48 Qa3) (xD 48 Qa4)) H1 := hN_
  refine lv_pop hx hb dL_law_1335 rfl ?_
  refine lv_aload_n hx hb dL_law_1336 rfl (lv_at hl 1 rfl) ?_
  refine lv_aload_n hx hb dL_law_1337 rfl (lv_at hl 3 rfl) ?_
  refine lv_iload_n hx hb dL_law_1338 rfl (lv_at hl 0 rfl) ?_
  refine lv_iconst (v := 1) hx hb dL_law_1339 (by decide) ?_
  refine lv_iadd hx hb dL_law_1340 ?_
  refine va_sld hx hb hX hbl hbA hS (vinT (by rw [hk1]; omega)) dL_law_1341 ?_
  refine lv_topi (fun a1_1 ea1_1 => ?_)
  obtain rfl : a1_0 = a1_1 := ea1_0.trans ea1_1.symm
  refine lv_aload_n hx hb dL_law_1342 rfl (lv_at hl 3 rfl) ?_
  refine lv_iload_n hx hb dL_law_1343 rfl (lv_at hl 0 rfl) ?_
  refine lv_iconst (v := 2) hx hb dL_law_1344 (by decide) ?_
  refine lv_iadd hx hb dL_law_1345 ?_
  refine va_sld hx hb hX hbl hbA hS (vinT (by rw [hk2]; omega)) dL_law_1346 ?_
  refine lv_topi (fun a2_1 ea2_1 => ?_)
  obtain rfl : a2_0 = a2_1 := ea2_0.trans ea2_1.symm
  refine lv_aload_n hx hb dL_law_1347 rfl (lv_at hl 3 rfl) ?_
  refine lv_iload_n hx hb dL_law_1348 rfl (lv_at hl 0 rfl) ?_
  refine lv_iconst (v := 3) hx hb dL_law_1349 (by decide) ?_
  refine lv_iadd hx hb dL_law_1350 ?_
  refine va_sld hx hb hX hbl hbA hS (vinT (by rw [hk3]; omega)) dL_law_1351 ?_
  refine lv_topi (fun a3_1 ea3_1 => ?_)
  obtain rfl : a3_0 = a3_1 := ea3_0.trans ea3_1.symm
  refine lv_aload_n hx hb dL_law_1352 rfl (lv_at hl 3 rfl) ?_
  refine lv_iload_n hx hb dL_law_1353 rfl (lv_at hl 0 rfl) ?_
  refine lv_iconst (v := 4) hx hb dL_law_1354 (by decide) ?_
  refine lv_iadd hx hb dL_law_1355 ?_
  refine va_sld hx hb hX hbl hbA hS (vinT (by rw [hk4]; omega)) dL_law_1356 ?_
  refine lv_topi (fun a4_1 ea4_1 => ?_)
  obtain rfl : a4_0 = a4_1 := ea4_0.trans ea4_1.symm
  refine lawVi (E := (eM l G k tM aX aV)) (b := g0) (As := [.int a1_0, .int a2_0, .int a3_0, .int a4_0]) (rest := []) F hK hN hOm hTm (c_X7_swap (eM l G k tM aX aV) (xD 6600 W0) (xD 1320 V0) (xD 660 B1) (xB 400 T) (xZ 2 K0) (u, u) (((-2147483648), 2147483647)) (t, t) (((-2147483648), 2147483647)) (0, 4000) (((-2147483648), 2147483647)) (((-2147483648), 2147483647)) (0, 1) X0 A0 Z g0 a1_0 a2_0 a3_0 a4_0 (List.mem_singleton.mpr hg0) hX0 hA0 hqX0) mv_X7_swap wd_58_5 ⟨Nat.le_of_ble_eq_true rfl, Nat.le_of_ble_eq_true rfl⟩ ⟨Nat.le_of_ble_eq_true rfl, Nat.le_of_ble_eq_true rfl⟩ hM hS (tRecv hK hM (by rw [show eT (eM l G k tM aX aV) g0 = 24 from hg0]; rfl) clX7) rfl hl.1 (Nat.le_of_ble_eq_true rfl) dL_law_1357 (fun v1 H1 locs hq hk_ hS => ?_)
  obtain ⟨X2_1, hX2_1, A2_1, hA2_1, f1_0, hN_⟩ := hq
  have hC := keptC hdis hC hk_
  have hM : TH (eM l G k tM aX aV) (tbM (mD (.inl (t, t)) (.inl (-2147483648, 2147483647)) (.inl (-2147483648, 2147483647)) (.inl (u, u)) (.inl (0, 18)) (.inl (-2147483648, 2147483647)) (.inl (0, 4000)) (.inl (-2147483648, 2147483647)) (.inl (0, 1))) (xD 660 X2_1) (xD 6600 W0) (xD 1320 V0) (xD 660 A2_1) (xD 660 B1) m_second (xB 400 T) (xZ 2 K0)) H1 := hN_
  refine lv_pop hx hb dL_law_1360 rfl ?_
  refine lv_goto (tgt := 1529) hx hb dL_law_1361 (by decide) ?_
  have hG_ : ((kr = [26] ∧ ks = [27]) ∨ (kr = [27] ∧ ks = [26])) ∧ (0 ≤ kb ∧ kb ≤ 3) ∧ (0 ≤ x1 ∧ x1 ≤ 12) ∧ (0 ≤ y1 ∧ y1 ≤ 14) ∧ (0 ≤ x2 ∧ x2 ≤ 12) ∧ (0 ≤ y2 ∧ y2 ≤ 14) ∧ (0 ≤ x3 ∧ x3 ≤ 12) ∧ (0 ≤ y3 ∧ y3 ≤ 14) ∧ (0 ≤ x4 ∧ x4 ≤ 12) ∧ (0 ≤ y4 ∧ y4 ≤ 14) ∧ ivP 12 (-2) 11 Da1 ∧ ivP 12 (-2147483648) 2147483647 Sa1 ∧ ivP 48 (-2147483648) 2147483647 Qa1 ∧ ivP 12 (-2) 11 Da2 ∧ ivP 12 (-2147483648) 2147483647 Sa2 ∧ ivP 48 (-2147483648) 2147483647 Qa2 ∧ ivP 12 (-2) 11 Da3 ∧ ivP 12 (-2147483648) 2147483647 Sa3 ∧ ivP 48 (-2147483648) 2147483647 Qa3 ∧ ivP 12 (-2) 11 Da4 ∧ ivP 12 (-2147483648) 2147483647 Sa4 ∧ ivP 48 (-2147483648) 2147483647 Qa4 := ⟨hkk, (by omega), (by omega), (by omega), (by omega), (by omega), (by omega), (by omega), (by omega), (by omega), hDa1, hSa1, hQa1, hDa2, hSa2, hQa2, hDa3, hSa3, hQa3, hDa4, hSa4, hQa4⟩
  exact hend t T (kr, ks, kb, x1, y1, x2, y2, x3, y3, x4, y4, Da1, Sa1, Qa1, Da2, Sa2, Qa2, Da3, Sa3, Qa3, Da4, Sa4, Qa4) _ _ ⟨(by omega), hT8⟩ hG_ hC ⟨X2_1, W0, V0, A2_1, B1, K0, Z, Y0, Y1, u, (by omega), hX2_1.1, hW0, hV0, hA2_1, hK0, hX2_1.2, hmW0, hy0, hy1, hTie, hM⟩ hS
set_option maxHeartbeats 4000000 in
set_option maxRecDepth 100000 in
theorem law_c38 {pg_ : Program} {l : Launch} {ev_ : Env} {s : State} {mi_ : MethodId} {below_ : List Frame} {meth : Method} {cd_ : Code} {H : Heap} {locs : List Loc} {ls : Array Slot} {b L : Nat} {xs : Nat → Int32} {G : va_G} {k : Nat → ClassId} {tC tM aX aV : Nat → Nat} {h0 g0 : Nat} {i : Int32} {t : Int} {T : RwF} {g : Gs} (B0 : LB pg_ s mi_ meth cd_ b L xs l G k tC tM aX aV h0 g0) (hi : 0 ≤ i.toInt ∧ i.toInt + 6 ≤ L) (ht : (0 ≤ t ∧ t ≤ 400) ∧ ivP 400 (-128) 127 T) (hg : Gok g) (hC : Cs (eC l G k tC aX aV) t T g H) (hMs : Ms (eM l G k tM aX aV) t T g H) (hS : va_S (lawA s) s.heap H locs) (hl : lv_has ls 4 [(3, .int i), (2, .ref g0), (1, .ref h0), (0, .ref b)]) (hend : ∀ (t : Int) (T : RwF) (g : Gs) (H : Heap) (locs : List Loc), ((0 ≤ t ∧ t ≤ 400) ∧ ivP 400 (-128) 127 T) → Gok g → Cs (eC l G k tC aX aV) t T g H → Ms (eM l G k tM aX aV) t T g H → va_S (lawA s) s.heap H locs → W pg_ l ev_ room_1 s mi_ #[Value.ref b] below_ meth cd_ H locs 294 18964 (lw_Z below_ #[Value.ref b] s) (F0 mi_ 1529 ls [])) : W pg_ l ev_ room_1 s mi_ #[Value.ref b] below_ meth cd_ H locs 294 18964 (lw_Z below_ #[Value.ref b] s) (F0 mi_ 1364 ls []) := by
  obtain ⟨F, hK, hN, hOc, hOm, hX, hbl, hL, hTc, hTm, hdis, hh0, hg0⟩ := id B0
  obtain ⟨hx, hb, hr, hml, hown, hlk, hw, -⟩ := id F
  have hbA : ¬ lawA s b := fun q => absurd q (by unfold lawA; omega)
  obtain ⟨kr, ks, kb, x1, y1, x2, y2, x3, y3, x4, y4, Da1, Sa1, Qa1, Da2, Sa2, Qa2, Da3, Sa3, Qa3, Da4, Sa4, Qa4⟩ := g
  obtain ⟨X0, W0, V0, A0, B1, K0, Z, Y0, Y1, u, hu, hX0, hW0, hV0, hA0, hK0, hqX0, hmW0, hy0, hy1, hTie0, hM⟩ := hMs
  obtain ⟨ht, hT8⟩ := ht
  have hg : ((kr = [26] ∧ ks = [27]) ∨ (kr = [27] ∧ ks = [26])) ∧ (0 ≤ kb ∧ kb ≤ 3) ∧ (0 ≤ x1 ∧ x1 ≤ 12) ∧ (0 ≤ y1 ∧ y1 ≤ 14) ∧ (0 ≤ x2 ∧ x2 ≤ 12) ∧ (0 ≤ y2 ∧ y2 ≤ 14) ∧ (0 ≤ x3 ∧ x3 ≤ 12) ∧ (0 ≤ y3 ∧ y3 ≤ 14) ∧ (0 ≤ x4 ∧ x4 ≤ 12) ∧ (0 ≤ y4 ∧ y4 ≤ 14) ∧ ivP 12 (-2) 11 Da1 ∧ ivP 12 (-2147483648) 2147483647 Sa1 ∧ ivP 48 (-2147483648) 2147483647 Qa1 ∧ ivP 12 (-2) 11 Da2 ∧ ivP 12 (-2147483648) 2147483647 Sa2 ∧ ivP 48 (-2147483648) 2147483647 Qa2 ∧ ivP 12 (-2) 11 Da3 ∧ ivP 12 (-2147483648) 2147483647 Sa3 ∧ ivP 48 (-2147483648) 2147483647 Qa3 ∧ ivP 12 (-2) 11 Da4 ∧ ivP 12 (-2147483648) 2147483647 Sa4 ∧ ivP 48 (-2147483648) 2147483647 Qa4 := hg
  obtain ⟨hkk, hkb, hx1, hy1_, hx2, hy2_, hx3, hy3_, hx4, hy4_, hDa1, hSa1, hQa1, hDa2, hSa2, hQa2, hDa3, hSa3, hQa3, hDa4, hSa4, hQa4⟩ := hg
  have hC : TH (eC l G k tC aX aV) (tbC (dayD (.inl (0, 18))) (dayD (.inl (0, 18))) (riverD (.inl (x1, x1)) (.inl (y1, y1)) (.inl (0, 4)) 31 33 35 39 43 47) (riverD (.inl (x2, x2)) (.inl (y2, y2)) (.inl (0, 4)) 32 34 36 40 44 48) (rcD (.inl (t, t)) (.inr kr) (.inr ks) (.inl (kb, kb))) (rdD (.inl (0, 400)) (.inl (0, 400)) (.inl (0, 4000)) (.inl (0, 1)) (.inr [26, 27])) (xB 400 T) A14F A14F A4F A4F A14F A14F (riverD (.inl (x3, x3)) (.inl (y3, y3)) (.inl (0, 4)) 3 8 3 41 45 49) (riverD (.inl (x4, x4)) (.inl (y4, y4)) (.inl (0, 4)) 3 8 3 42 46 50) (xD 12 Da1) (xD 12 Da2) (xD 12 Da3) (xD 12 Da4) (xD 12 Sa1) (xD 12 Sa2) (xD 12 Sa3) (xD 12 Sa4) (xD 48 Qa1) (xD 48 Qa2) (xD 48 Qa3) (xD 48 Qa4)) H := hC
  have hTie : (kr = [26] → rowT x1 Da1 Sa1 Qa1 Z) ∧ (kr = [27] → rowT x2 Da2 Sa2 Qa2 Z) ∧ gI K0 0 = kb % 2 ∧ gI K0 1 = kb / 2 ∧ (kb % 2 = 1 → rowT x3 Da3 Sa3 Qa3 Y0) ∧ (kb / 2 = 1 → rowT x4 Da4 Sa4 Qa4 Y1) := hTie0
  clear hTie0
  have hk1 : (i + 1).toInt = i.toInt + 1 := by
    have h1 := i_add (x := i) (y := 1) (by rw [show (1 : Int32).toInt = 1 by decide]; omega) (by rw [show (1 : Int32).toInt = 1 by decide]; omega)
    rw [show (1 : Int32).toInt = 1 by decide] at h1
    exact h1
  have hk2 : (i + 2).toInt = i.toInt + 2 := by
    have h1 := i_add (x := i) (y := 2) (by rw [show (2 : Int32).toInt = 2 by decide]; omega) (by rw [show (2 : Int32).toInt = 2 by decide]; omega)
    rw [show (2 : Int32).toInt = 2 by decide] at h1
    exact h1
  have hk3 : (i + 3).toInt = i.toInt + 3 := by
    have h1 := i_add (x := i) (y := 3) (by rw [show (3 : Int32).toInt = 3 by decide]; omega) (by rw [show (3 : Int32).toInt = 3 by decide]; omega)
    rw [show (3 : Int32).toInt = 3 by decide] at h1
    exact h1
  refine lv_aload_n hx hb dL_law_1364 rfl (lv_at hl 2 rfl) ?_
  refine lv_aload_n hx hb dL_law_1365 rfl (lv_at hl 3 rfl) ?_
  refine lv_iload_n hx hb dL_law_1366 rfl (lv_at hl 0 rfl) ?_
  refine lv_iconst (v := 1) hx hb dL_law_1367 (by decide) ?_
  refine lv_iadd hx hb dL_law_1368 ?_
  refine va_sld hx hb hX hbl hbA hS (vinT (by rw [hk1]; omega)) dL_law_1369 ?_
  refine lv_topi (fun a1_0 ea1_0 => ?_)
  refine lv_aload_n hx hb dL_law_1370 rfl (lv_at hl 3 rfl) ?_
  refine lv_iload_n hx hb dL_law_1371 rfl (lv_at hl 0 rfl) ?_
  refine lv_iconst (v := 2) hx hb dL_law_1372 (by decide) ?_
  refine lv_iadd hx hb dL_law_1373 ?_
  refine va_sld hx hb hX hbl hbA hS (vinT (by rw [hk2]; omega)) dL_law_1374 ?_
  refine lv_topi (fun a2_0 ea2_0 => ?_)
  refine lv_aload_n hx hb dL_law_1375 rfl (lv_at hl 3 rfl) ?_
  refine lv_iload_n hx hb dL_law_1376 rfl (lv_at hl 0 rfl) ?_
  refine lv_iconst (v := 3) hx hb dL_law_1377 (by decide) ?_
  refine lv_iadd hx hb dL_law_1378 ?_
  refine va_sld hx hb hX hbl hbA hS (vinT (by rw [hk3]; omega)) dL_law_1379 ?_
  refine lv_topi (fun a3_0 ea3_0 => ?_)
  have hkr : ∀ t ∈ kr, t ∈ [26, 27] := by rcases hkk with ⟨h9_, -⟩ | ⟨h9_, -⟩ <;> rw [h9_] <;> decide
  have hks : ∀ t ∈ ks, t ∈ [26, 27] := by rcases hkk with ⟨-, h9_⟩ | ⟨-, h9_⟩ <;> rw [h9_] <;> decide
  refine lawVi (E := (eC l G k tC aX aV)) (b := h0) (As := [.int a1_0, .int a2_0, .int a3_0]) (rest := []) F hK hN hOc hTc (c_X6_spell (eC l G k tC aX aV) (rdD (.inl (0, 400)) (.inl (0, 400)) (.inl (0, 4000)) (.inl (0, 1)) (.inr [26, 27])) (xB 400 T) (kb, kb) (x1, x1) (y1, y1) (x2, x2) (y2, y2) (x3, x3) (y3, y3) (x4, x4) (y4, y4) kr ks (fun f_ => f_ = Da1) (fun f_ => f_ = Da2) (fun f_ => f_ = Da3) (fun f_ => f_ = Da4) (fun f_ => f_ = Sa1) (fun f_ => f_ = Sa2) (fun f_ => f_ = Sa3) (fun f_ => f_ = Sa4) (fun f_ => f_ = Qa1) (fun f_ => f_ = Qa2) (fun f_ => f_ = Qa3) (fun f_ => f_ = Qa4) t h0 a1_0 a2_0 a3_0 (List.mem_singleton.mpr hh0) (by omega) (by show 0 ≤ x1 ∧ x1 ≤ 12; omega) (by show 0 ≤ y1 ∧ y1 ≤ 14; omega) (by show 0 ≤ x2 ∧ x2 ≤ 12; omega) (by show 0 ≤ y2 ∧ y2 ≤ 14; omega) (by show 0 ≤ x3 ∧ x3 ≤ 12; omega) (by show 0 ≤ y3 ∧ y3 ≤ 14; omega) (by show 0 ≤ x4 ∧ x4 ≤ 12; omega) (by show 0 ≤ y4 ∧ y4 ≤ 14; omega) hkr hks (fun f_ h_ => ivX hDa1 h_) (fun f_ h_ => ivX hDa2 h_) (fun f_ h_ => ivX hDa3 h_) (fun f_ h_ => ivX hDa4 h_) (fun f_ h_ => ivX hSa1 h_) (fun f_ h_ => ivX hSa2 h_) (fun f_ h_ => ivX hSa3 h_) (fun f_ h_ => ivX hSa4 h_) (fun f_ h_ => ivX hQa1 h_) (fun f_ h_ => ivX hQa2 h_) (fun f_ h_ => ivX hQa3 h_) (fun f_ h_ => ivX hQa4 h_)) mv_X6_spell wd_58_13 ⟨Nat.le_of_ble_eq_true rfl, Nat.le_of_ble_eq_true rfl⟩ ⟨Nat.le_of_ble_eq_true rfl, Nat.le_of_ble_eq_true rfl⟩ hC hS (tRecv hK hC (by rw [show eT (eC l G k tC aX aV) h0 = 28 from hh0]; rfl) clX6) rfl hl.1 (Nat.le_of_ble_eq_true rfl) dL_law_1380 (fun v0 H1 locs hq hk_ hS => ?_)
  obtain ⟨f0_0, hN_⟩ := hq
  have hM := keptM hdis hM hk_
  have hC : TH (eC l G k tC aX aV) (tbC (dayD (.inl (0, 18))) (dayD (.inl (0, 18))) (riverD (.inl (x1, x1)) (.inl (y1, y1)) (.inl (0, 4)) 31 33 35 39 43 47) (riverD (.inl (x2, x2)) (.inl (y2, y2)) (.inl (0, 4)) 32 34 36 40 44 48) (rcD (.inl (t, t)) (.inr kr) (.inr ks) (.inl (kb, kb))) (rdD (.inl (0, 400)) (.inl (0, 400)) (.inl (0, 4000)) (.inl (0, 1)) (.inr [26, 27])) (xB 400 T) A14F A14F A4F A4F A14F A14F (riverD (.inl (x3, x3)) (.inl (y3, y3)) (.inl (0, 4)) 3 8 3 41 45 49) (riverD (.inl (x4, x4)) (.inl (y4, y4)) (.inl (0, 4)) 3 8 3 42 46 50) (xD 12 Da1) (xD 12 Da2) (xD 12 Da3) (xD 12 Da4) (xD 12 Sa1) (xD 12 Sa2) (xD 12 Sa3) (xD 12 Sa4) (xD 48 Qa1) (xD 48 Qa2) (xD 48 Qa3) (xD 48 Qa4)) H1 := hN_
  refine lv_pop hx hb dL_law_1383 rfl ?_
  refine lv_aload_n hx hb dL_law_1384 rfl (lv_at hl 1 rfl) ?_
  refine lv_aload_n hx hb dL_law_1385 rfl (lv_at hl 3 rfl) ?_
  refine lv_iload_n hx hb dL_law_1386 rfl (lv_at hl 0 rfl) ?_
  refine lv_iconst (v := 1) hx hb dL_law_1387 (by decide) ?_
  refine lv_iadd hx hb dL_law_1388 ?_
  refine va_sld hx hb hX hbl hbA hS (vinT (by rw [hk1]; omega)) dL_law_1389 ?_
  refine lv_topi (fun a1_1 ea1_1 => ?_)
  obtain rfl : a1_0 = a1_1 := ea1_0.trans ea1_1.symm
  refine lv_aload_n hx hb dL_law_1390 rfl (lv_at hl 3 rfl) ?_
  refine lv_iload_n hx hb dL_law_1391 rfl (lv_at hl 0 rfl) ?_
  refine lv_iconst (v := 2) hx hb dL_law_1392 (by decide) ?_
  refine lv_iadd hx hb dL_law_1393 ?_
  refine va_sld hx hb hX hbl hbA hS (vinT (by rw [hk2]; omega)) dL_law_1394 ?_
  refine lv_topi (fun a2_1 ea2_1 => ?_)
  obtain rfl : a2_0 = a2_1 := ea2_0.trans ea2_1.symm
  refine lv_aload_n hx hb dL_law_1395 rfl (lv_at hl 3 rfl) ?_
  refine lv_iload_n hx hb dL_law_1396 rfl (lv_at hl 0 rfl) ?_
  refine lv_iconst (v := 3) hx hb dL_law_1397 (by decide) ?_
  refine lv_iadd hx hb dL_law_1398 ?_
  refine va_sld hx hb hX hbl hbA hS (vinT (by rw [hk3]; omega)) dL_law_1399 ?_
  refine lv_topi (fun a3_1 ea3_1 => ?_)
  obtain rfl : a3_0 = a3_1 := ea3_0.trans ea3_1.symm
  refine lawVi (E := (eM l G k tM aX aV)) (b := g0) (As := [.int a1_0, .int a2_0, .int a3_0]) (rest := []) F hK hN hOm hTm (c_X7_spell_ (eM l G k tM aX aV) (xD 6600 W0) (xD 1320 V0) (xD 660 B1) (xB 400 T) (xZ 2 K0) (u, u) (((-2147483648), 2147483647)) (t, t) (((-2147483648), 2147483647)) (0, 4000) (((-2147483648), 2147483647)) (((-2147483648), 2147483647)) (0, 1) X0 A0 Z g0 a1_0 a2_0 a3_0 (List.mem_singleton.mpr hg0) hX0 hA0 hqX0) mv_X7_spell_ wd_58_19 ⟨Nat.le_of_ble_eq_true rfl, Nat.le_of_ble_eq_true rfl⟩ ⟨Nat.le_of_ble_eq_true rfl, Nat.le_of_ble_eq_true rfl⟩ hM hS (tRecv hK hM (by rw [show eT (eM l G k tM aX aV) g0 = 24 from hg0]; rfl) clX7) rfl hl.1 (Nat.le_of_ble_eq_true rfl) dL_law_1400 (fun v1 H1 locs hq hk_ hS => ?_)
  obtain ⟨X2_1, hX2_1, A2_1, hA2_1, f1_0, hN_⟩ := hq
  have hC := keptC hdis hC hk_
  have hM : TH (eM l G k tM aX aV) (tbM (mD (.inl (t, t)) (.inl (-2147483648, 2147483647)) (.inl (-2147483648, 2147483647)) (.inl (u, u)) (.inl (0, 18)) (.inl (-2147483648, 2147483647)) (.inl (0, 4000)) (.inl (-2147483648, 2147483647)) (.inl (0, 1))) (xD 660 X2_1) (xD 6600 W0) (xD 1320 V0) (xD 660 A2_1) (xD 660 B1) m_second (xB 400 T) (xZ 2 K0)) H1 := hN_
  refine lv_pop hx hb dL_law_1403 rfl ?_
  refine lv_goto (tgt := 1529) hx hb dL_law_1404 (by decide) ?_
  have hG_ : ((kr = [26] ∧ ks = [27]) ∨ (kr = [27] ∧ ks = [26])) ∧ (0 ≤ kb ∧ kb ≤ 3) ∧ (0 ≤ x1 ∧ x1 ≤ 12) ∧ (0 ≤ y1 ∧ y1 ≤ 14) ∧ (0 ≤ x2 ∧ x2 ≤ 12) ∧ (0 ≤ y2 ∧ y2 ≤ 14) ∧ (0 ≤ x3 ∧ x3 ≤ 12) ∧ (0 ≤ y3 ∧ y3 ≤ 14) ∧ (0 ≤ x4 ∧ x4 ≤ 12) ∧ (0 ≤ y4 ∧ y4 ≤ 14) ∧ ivP 12 (-2) 11 Da1 ∧ ivP 12 (-2147483648) 2147483647 Sa1 ∧ ivP 48 (-2147483648) 2147483647 Qa1 ∧ ivP 12 (-2) 11 Da2 ∧ ivP 12 (-2147483648) 2147483647 Sa2 ∧ ivP 48 (-2147483648) 2147483647 Qa2 ∧ ivP 12 (-2) 11 Da3 ∧ ivP 12 (-2147483648) 2147483647 Sa3 ∧ ivP 48 (-2147483648) 2147483647 Qa3 ∧ ivP 12 (-2) 11 Da4 ∧ ivP 12 (-2147483648) 2147483647 Sa4 ∧ ivP 48 (-2147483648) 2147483647 Qa4 := ⟨hkk, (by omega), (by omega), (by omega), (by omega), (by omega), (by omega), (by omega), (by omega), (by omega), hDa1, hSa1, hQa1, hDa2, hSa2, hQa2, hDa3, hSa3, hQa3, hDa4, hSa4, hQa4⟩
  exact hend t T (kr, ks, kb, x1, y1, x2, y2, x3, y3, x4, y4, Da1, Sa1, Qa1, Da2, Sa2, Qa2, Da3, Sa3, Qa3, Da4, Sa4, Qa4) _ _ ⟨(by omega), hT8⟩ hG_ hC ⟨X2_1, W0, V0, A2_1, B1, K0, Z, Y0, Y1, u, (by omega), hX2_1.1, hW0, hV0, hA2_1, hK0, hX2_1.2, hmW0, hy0, hy1, hTie, hM⟩ hS
set_option maxHeartbeats 4000000 in
set_option maxRecDepth 100000 in
theorem law_c39 {pg_ : Program} {l : Launch} {ev_ : Env} {s : State} {mi_ : MethodId} {below_ : List Frame} {meth : Method} {cd_ : Code} {H : Heap} {locs : List Loc} {ls : Array Slot} {b L : Nat} {xs : Nat → Int32} {G : va_G} {k : Nat → ClassId} {tC tM aX aV : Nat → Nat} {h0 g0 : Nat} {i : Int32} {t : Int} {T : RwF} {g : Gs} (B0 : LB pg_ s mi_ meth cd_ b L xs l G k tC tM aX aV h0 g0) (hi : 0 ≤ i.toInt ∧ i.toInt + 6 ≤ L) (ht : (0 ≤ t ∧ t ≤ 400) ∧ ivP 400 (-128) 127 T) (hg : Gok g) (hC : Cs (eC l G k tC aX aV) t T g H) (hMs : Ms (eM l G k tM aX aV) t T g H) (hS : va_S (lawA s) s.heap H locs) (hl : lv_has ls 4 [(3, .int i), (2, .ref g0), (1, .ref h0), (0, .ref b)]) (hend : ∀ (t : Int) (T : RwF) (g : Gs) (H : Heap) (locs : List Loc), ((0 ≤ t ∧ t ≤ 400) ∧ ivP 400 (-128) 127 T) → Gok g → Cs (eC l G k tC aX aV) t T g H → Ms (eM l G k tM aX aV) t T g H → va_S (lawA s) s.heap H locs → W pg_ l ev_ room_1 s mi_ #[Value.ref b] below_ meth cd_ H locs 294 18964 (lw_Z below_ #[Value.ref b] s) (F0 mi_ 1529 ls [])) : W pg_ l ev_ room_1 s mi_ #[Value.ref b] below_ meth cd_ H locs 294 18964 (lw_Z below_ #[Value.ref b] s) (F0 mi_ 1407 ls []) := by
  obtain ⟨F, hK, hN, hOc, hOm, hX, hbl, hL, hTc, hTm, hdis, hh0, hg0⟩ := id B0
  obtain ⟨hx, hb, hr, hml, hown, hlk, hw, -⟩ := id F
  have hbA : ¬ lawA s b := fun q => absurd q (by unfold lawA; omega)
  obtain ⟨kr, ks, kb, x1, y1, x2, y2, x3, y3, x4, y4, Da1, Sa1, Qa1, Da2, Sa2, Qa2, Da3, Sa3, Qa3, Da4, Sa4, Qa4⟩ := g
  obtain ⟨X0, W0, V0, A0, B1, K0, Z, Y0, Y1, u, hu, hX0, hW0, hV0, hA0, hK0, hqX0, hmW0, hy0, hy1, hTie0, hM⟩ := hMs
  obtain ⟨ht, hT8⟩ := ht
  have hg : ((kr = [26] ∧ ks = [27]) ∨ (kr = [27] ∧ ks = [26])) ∧ (0 ≤ kb ∧ kb ≤ 3) ∧ (0 ≤ x1 ∧ x1 ≤ 12) ∧ (0 ≤ y1 ∧ y1 ≤ 14) ∧ (0 ≤ x2 ∧ x2 ≤ 12) ∧ (0 ≤ y2 ∧ y2 ≤ 14) ∧ (0 ≤ x3 ∧ x3 ≤ 12) ∧ (0 ≤ y3 ∧ y3 ≤ 14) ∧ (0 ≤ x4 ∧ x4 ≤ 12) ∧ (0 ≤ y4 ∧ y4 ≤ 14) ∧ ivP 12 (-2) 11 Da1 ∧ ivP 12 (-2147483648) 2147483647 Sa1 ∧ ivP 48 (-2147483648) 2147483647 Qa1 ∧ ivP 12 (-2) 11 Da2 ∧ ivP 12 (-2147483648) 2147483647 Sa2 ∧ ivP 48 (-2147483648) 2147483647 Qa2 ∧ ivP 12 (-2) 11 Da3 ∧ ivP 12 (-2147483648) 2147483647 Sa3 ∧ ivP 48 (-2147483648) 2147483647 Qa3 ∧ ivP 12 (-2) 11 Da4 ∧ ivP 12 (-2147483648) 2147483647 Sa4 ∧ ivP 48 (-2147483648) 2147483647 Qa4 := hg
  obtain ⟨hkk, hkb, hx1, hy1_, hx2, hy2_, hx3, hy3_, hx4, hy4_, hDa1, hSa1, hQa1, hDa2, hSa2, hQa2, hDa3, hSa3, hQa3, hDa4, hSa4, hQa4⟩ := hg
  have hC : TH (eC l G k tC aX aV) (tbC (dayD (.inl (0, 18))) (dayD (.inl (0, 18))) (riverD (.inl (x1, x1)) (.inl (y1, y1)) (.inl (0, 4)) 31 33 35 39 43 47) (riverD (.inl (x2, x2)) (.inl (y2, y2)) (.inl (0, 4)) 32 34 36 40 44 48) (rcD (.inl (t, t)) (.inr kr) (.inr ks) (.inl (kb, kb))) (rdD (.inl (0, 400)) (.inl (0, 400)) (.inl (0, 4000)) (.inl (0, 1)) (.inr [26, 27])) (xB 400 T) A14F A14F A4F A4F A14F A14F (riverD (.inl (x3, x3)) (.inl (y3, y3)) (.inl (0, 4)) 3 8 3 41 45 49) (riverD (.inl (x4, x4)) (.inl (y4, y4)) (.inl (0, 4)) 3 8 3 42 46 50) (xD 12 Da1) (xD 12 Da2) (xD 12 Da3) (xD 12 Da4) (xD 12 Sa1) (xD 12 Sa2) (xD 12 Sa3) (xD 12 Sa4) (xD 48 Qa1) (xD 48 Qa2) (xD 48 Qa3) (xD 48 Qa4)) H := hC
  have hTie : (kr = [26] → rowT x1 Da1 Sa1 Qa1 Z) ∧ (kr = [27] → rowT x2 Da2 Sa2 Qa2 Z) ∧ gI K0 0 = kb % 2 ∧ gI K0 1 = kb / 2 ∧ (kb % 2 = 1 → rowT x3 Da3 Sa3 Qa3 Y0) ∧ (kb / 2 = 1 → rowT x4 Da4 Sa4 Qa4 Y1) := hTie0
  clear hTie0
  have hk1 : (i + 1).toInt = i.toInt + 1 := by
    have h1 := i_add (x := i) (y := 1) (by rw [show (1 : Int32).toInt = 1 by decide]; omega) (by rw [show (1 : Int32).toInt = 1 by decide]; omega)
    rw [show (1 : Int32).toInt = 1 by decide] at h1
    exact h1
  have hk2 : (i + 2).toInt = i.toInt + 2 := by
    have h1 := i_add (x := i) (y := 2) (by rw [show (2 : Int32).toInt = 2 by decide]; omega) (by rw [show (2 : Int32).toInt = 2 by decide]; omega)
    rw [show (2 : Int32).toInt = 2 by decide] at h1
    exact h1
  have hk3 : (i + 3).toInt = i.toInt + 3 := by
    have h1 := i_add (x := i) (y := 3) (by rw [show (3 : Int32).toInt = 3 by decide]; omega) (by rw [show (3 : Int32).toInt = 3 by decide]; omega)
    rw [show (3 : Int32).toInt = 3 by decide] at h1
    exact h1
  refine lv_aload_n hx hb dL_law_1407 rfl (lv_at hl 2 rfl) ?_
  refine lv_aload_n hx hb dL_law_1408 rfl (lv_at hl 3 rfl) ?_
  refine lv_iload_n hx hb dL_law_1409 rfl (lv_at hl 0 rfl) ?_
  refine lv_iconst (v := 1) hx hb dL_law_1410 (by decide) ?_
  refine lv_iadd hx hb dL_law_1411 ?_
  refine va_sld hx hb hX hbl hbA hS (vinT (by rw [hk1]; omega)) dL_law_1412 ?_
  refine lv_topi (fun a1_0 ea1_0 => ?_)
  refine lv_aload_n hx hb dL_law_1413 rfl (lv_at hl 3 rfl) ?_
  refine lv_iload_n hx hb dL_law_1414 rfl (lv_at hl 0 rfl) ?_
  refine lv_iconst (v := 2) hx hb dL_law_1415 (by decide) ?_
  refine lv_iadd hx hb dL_law_1416 ?_
  refine va_sld hx hb hX hbl hbA hS (vinT (by rw [hk2]; omega)) dL_law_1417 ?_
  refine lv_topi (fun a2_0 ea2_0 => ?_)
  refine lv_aload_n hx hb dL_law_1418 rfl (lv_at hl 3 rfl) ?_
  refine lv_iload_n hx hb dL_law_1419 rfl (lv_at hl 0 rfl) ?_
  refine lv_iconst (v := 3) hx hb dL_law_1420 (by decide) ?_
  refine lv_iadd hx hb dL_law_1421 ?_
  refine va_sld hx hb hX hbl hbA hS (vinT (by rw [hk3]; omega)) dL_law_1422 ?_
  refine lv_topi (fun a3_0 ea3_0 => ?_)
  have hkr : ∀ t ∈ kr, t ∈ [26, 27] := by rcases hkk with ⟨h9_, -⟩ | ⟨h9_, -⟩ <;> rw [h9_] <;> decide
  have hks : ∀ t ∈ ks, t ∈ [26, 27] := by rcases hkk with ⟨-, h9_⟩ | ⟨-, h9_⟩ <;> rw [h9_] <;> decide
  refine lawVi (E := (eC l G k tC aX aV)) (b := h0) (As := [.int a1_0, .int a2_0, .int a3_0]) (rest := []) F hK hN hOc hTc (c_X6_gain (eC l G k tC aX aV) (rdD (.inl (0, 400)) (.inl (0, 400)) (.inl (0, 4000)) (.inl (0, 1)) (.inr [26, 27])) (xB 400 T) (kb, kb) (x1, x1) (y1, y1) (x2, x2) (y2, y2) (x3, x3) (y3, y3) (x4, x4) (y4, y4) kr ks (fun f_ => f_ = Da1) (fun f_ => f_ = Da2) (fun f_ => f_ = Da3) (fun f_ => f_ = Da4) (fun f_ => f_ = Sa1) (fun f_ => f_ = Sa2) (fun f_ => f_ = Sa3) (fun f_ => f_ = Sa4) (fun f_ => f_ = Qa1) (fun f_ => f_ = Qa2) (fun f_ => f_ = Qa3) (fun f_ => f_ = Qa4) t h0 a1_0 a2_0 a3_0 (List.mem_singleton.mpr hh0) (by omega) (by show 0 ≤ x1 ∧ x1 ≤ 12; omega) (by show 0 ≤ y1 ∧ y1 ≤ 14; omega) (by show 0 ≤ x2 ∧ x2 ≤ 12; omega) (by show 0 ≤ y2 ∧ y2 ≤ 14; omega) (by show 0 ≤ x3 ∧ x3 ≤ 12; omega) (by show 0 ≤ y3 ∧ y3 ≤ 14; omega) (by show 0 ≤ x4 ∧ x4 ≤ 12; omega) (by show 0 ≤ y4 ∧ y4 ≤ 14; omega) hkr hks (fun f_ h_ => ivX hDa1 h_) (fun f_ h_ => ivX hDa2 h_) (fun f_ h_ => ivX hDa3 h_) (fun f_ h_ => ivX hDa4 h_) (fun f_ h_ => ivX hSa1 h_) (fun f_ h_ => ivX hSa2 h_) (fun f_ h_ => ivX hSa3 h_) (fun f_ h_ => ivX hSa4 h_) (fun f_ h_ => ivX hQa1 h_) (fun f_ h_ => ivX hQa2 h_) (fun f_ h_ => ivX hQa3 h_) (fun f_ h_ => ivX hQa4 h_)) mv_X6_gain wd_58_23 ⟨Nat.le_of_ble_eq_true rfl, Nat.le_of_ble_eq_true rfl⟩ ⟨Nat.le_of_ble_eq_true rfl, Nat.le_of_ble_eq_true rfl⟩ hC hS (tRecv hK hC (by rw [show eT (eC l G k tC aX aV) h0 = 28 from hh0]; rfl) clX6) rfl hl.1 (Nat.le_of_ble_eq_true rfl) dL_law_1423 (fun v0 H1 locs hq hk_ hS => ?_)
  obtain ⟨f0_0, hN_⟩ := hq
  have hM := keptM hdis hM hk_
  have hC : TH (eC l G k tC aX aV) (tbC (dayD (.inl (0, 18))) (dayD (.inl (0, 18))) (riverD (.inl (x1, x1)) (.inl (y1, y1)) (.inl (0, 4)) 31 33 35 39 43 47) (riverD (.inl (x2, x2)) (.inl (y2, y2)) (.inl (0, 4)) 32 34 36 40 44 48) (rcD (.inl (t, t)) (.inr kr) (.inr ks) (.inl (kb, kb))) (rdD (.inl (0, 400)) (.inl (0, 400)) (.inl (0, 4000)) (.inl (0, 1)) (.inr [26, 27])) (xB 400 T) A14F A14F A4F A4F A14F A14F (riverD (.inl (x3, x3)) (.inl (y3, y3)) (.inl (0, 4)) 3 8 3 41 45 49) (riverD (.inl (x4, x4)) (.inl (y4, y4)) (.inl (0, 4)) 3 8 3 42 46 50) (xD 12 Da1) (xD 12 Da2) (xD 12 Da3) (xD 12 Da4) (xD 12 Sa1) (xD 12 Sa2) (xD 12 Sa3) (xD 12 Sa4) (xD 48 Qa1) (xD 48 Qa2) (xD 48 Qa3) (xD 48 Qa4)) H1 := hN_
  refine lv_pop hx hb dL_law_1426 rfl ?_
  refine lv_aload_n hx hb dL_law_1427 rfl (lv_at hl 1 rfl) ?_
  refine lv_aload_n hx hb dL_law_1428 rfl (lv_at hl 3 rfl) ?_
  refine lv_iload_n hx hb dL_law_1429 rfl (lv_at hl 0 rfl) ?_
  refine lv_iconst (v := 1) hx hb dL_law_1430 (by decide) ?_
  refine lv_iadd hx hb dL_law_1431 ?_
  refine va_sld hx hb hX hbl hbA hS (vinT (by rw [hk1]; omega)) dL_law_1432 ?_
  refine lv_topi (fun a1_1 ea1_1 => ?_)
  obtain rfl : a1_0 = a1_1 := ea1_0.trans ea1_1.symm
  refine lv_aload_n hx hb dL_law_1433 rfl (lv_at hl 3 rfl) ?_
  refine lv_iload_n hx hb dL_law_1434 rfl (lv_at hl 0 rfl) ?_
  refine lv_iconst (v := 2) hx hb dL_law_1435 (by decide) ?_
  refine lv_iadd hx hb dL_law_1436 ?_
  refine va_sld hx hb hX hbl hbA hS (vinT (by rw [hk2]; omega)) dL_law_1437 ?_
  refine lv_topi (fun a2_1 ea2_1 => ?_)
  obtain rfl : a2_0 = a2_1 := ea2_0.trans ea2_1.symm
  refine lv_aload_n hx hb dL_law_1438 rfl (lv_at hl 3 rfl) ?_
  refine lv_iload_n hx hb dL_law_1439 rfl (lv_at hl 0 rfl) ?_
  refine lv_iconst (v := 3) hx hb dL_law_1440 (by decide) ?_
  refine lv_iadd hx hb dL_law_1441 ?_
  refine va_sld hx hb hX hbl hbA hS (vinT (by rw [hk3]; omega)) dL_law_1442 ?_
  refine lv_topi (fun a3_1 ea3_1 => ?_)
  obtain rfl : a3_0 = a3_1 := ea3_0.trans ea3_1.symm
  refine lawVi (E := (eM l G k tM aX aV)) (b := g0) (As := [.int a1_0, .int a2_0, .int a3_0]) (rest := []) F hK hN hOm hTm (c_X7_gain (eM l G k tM aX aV) (xD 6600 W0) (xD 1320 V0) (xD 660 B1) (xB 400 T) (xZ 2 K0) (u, u) (t, t) (((-2147483648), 2147483647)) (0, 4000) (((-2147483648), 2147483647)) (((-2147483648), 2147483647)) (0, 1) X0 A0 Z g0 a1_0 a2_0 a3_0 (List.mem_singleton.mpr hg0) hX0 hA0 hqX0) mv_X7_gain wd_59_4 ⟨Nat.le_of_ble_eq_true rfl, Nat.le_of_ble_eq_true rfl⟩ ⟨Nat.le_of_ble_eq_true rfl, Nat.le_of_ble_eq_true rfl⟩ hM hS (tRecv hK hM (by rw [show eT (eM l G k tM aX aV) g0 = 24 from hg0]; rfl) clX7) rfl hl.1 (Nat.le_of_ble_eq_true rfl) dL_law_1443 (fun v1 H1 locs hq hk_ hS => ?_)
  obtain ⟨X2_1, hX2_1, A2_1, hA2_1, f1_0, hN_⟩ := hq
  have hC := keptC hdis hC hk_
  have hM : TH (eM l G k tM aX aV) (tbM (mD (.inl (t, t)) (.inl (-2147483648, 2147483647)) (.inl (-2147483648, 2147483647)) (.inl (u, u)) (.inl (0, 18)) (.inl (-2147483648, 2147483647)) (.inl (0, 4000)) (.inl (-2147483648, 2147483647)) (.inl (0, 1))) (xD 660 X2_1) (xD 6600 W0) (xD 1320 V0) (xD 660 A2_1) (xD 660 B1) m_second (xB 400 T) (xZ 2 K0)) H1 := hN_
  refine lv_pop hx hb dL_law_1446 rfl ?_
  refine lv_goto (tgt := 1529) hx hb dL_law_1447 (by decide) ?_
  have hG_ : ((kr = [26] ∧ ks = [27]) ∨ (kr = [27] ∧ ks = [26])) ∧ (0 ≤ kb ∧ kb ≤ 3) ∧ (0 ≤ x1 ∧ x1 ≤ 12) ∧ (0 ≤ y1 ∧ y1 ≤ 14) ∧ (0 ≤ x2 ∧ x2 ≤ 12) ∧ (0 ≤ y2 ∧ y2 ≤ 14) ∧ (0 ≤ x3 ∧ x3 ≤ 12) ∧ (0 ≤ y3 ∧ y3 ≤ 14) ∧ (0 ≤ x4 ∧ x4 ≤ 12) ∧ (0 ≤ y4 ∧ y4 ≤ 14) ∧ ivP 12 (-2) 11 Da1 ∧ ivP 12 (-2147483648) 2147483647 Sa1 ∧ ivP 48 (-2147483648) 2147483647 Qa1 ∧ ivP 12 (-2) 11 Da2 ∧ ivP 12 (-2147483648) 2147483647 Sa2 ∧ ivP 48 (-2147483648) 2147483647 Qa2 ∧ ivP 12 (-2) 11 Da3 ∧ ivP 12 (-2147483648) 2147483647 Sa3 ∧ ivP 48 (-2147483648) 2147483647 Qa3 ∧ ivP 12 (-2) 11 Da4 ∧ ivP 12 (-2147483648) 2147483647 Sa4 ∧ ivP 48 (-2147483648) 2147483647 Qa4 := ⟨hkk, (by omega), (by omega), (by omega), (by omega), (by omega), (by omega), (by omega), (by omega), (by omega), hDa1, hSa1, hQa1, hDa2, hSa2, hQa2, hDa3, hSa3, hQa3, hDa4, hSa4, hQa4⟩
  exact hend t T (kr, ks, kb, x1, y1, x2, y2, x3, y3, x4, y4, Da1, Sa1, Qa1, Da2, Sa2, Qa2, Da3, Sa3, Qa3, Da4, Sa4, Qa4) _ _ ⟨(by omega), hT8⟩ hG_ hC ⟨X2_1, W0, V0, A2_1, B1, K0, Z, Y0, Y1, u, (by omega), hX2_1.1, hW0, hV0, hA2_1, hK0, hX2_1.2, hmW0, hy0, hy1, hTie, hM⟩ hS
set_option maxHeartbeats 4000000 in
set_option maxRecDepth 100000 in
theorem law_c40 {pg_ : Program} {l : Launch} {ev_ : Env} {s : State} {mi_ : MethodId} {below_ : List Frame} {meth : Method} {cd_ : Code} {H : Heap} {locs : List Loc} {ls : Array Slot} {b L : Nat} {xs : Nat → Int32} {G : va_G} {k : Nat → ClassId} {tC tM aX aV : Nat → Nat} {h0 g0 : Nat} {i : Int32} {t : Int} {T : RwF} {g : Gs} (B0 : LB pg_ s mi_ meth cd_ b L xs l G k tC tM aX aV h0 g0) (hi : 0 ≤ i.toInt ∧ i.toInt + 6 ≤ L) (ht : (0 ≤ t ∧ t ≤ 400) ∧ ivP 400 (-128) 127 T) (hg : Gok g) (hC : Cs (eC l G k tC aX aV) t T g H) (hMs : Ms (eM l G k tM aX aV) t T g H) (hS : va_S (lawA s) s.heap H locs) (hl : lv_has ls 4 [(3, .int i), (2, .ref g0), (1, .ref h0), (0, .ref b)]) (hend : ∀ (t : Int) (T : RwF) (g : Gs) (H : Heap) (locs : List Loc), ((0 ≤ t ∧ t ≤ 400) ∧ ivP 400 (-128) 127 T) → Gok g → Cs (eC l G k tC aX aV) t T g H → Ms (eM l G k tM aX aV) t T g H → va_S (lawA s) s.heap H locs → W pg_ l ev_ room_1 s mi_ #[Value.ref b] below_ meth cd_ H locs 294 18964 (lw_Z below_ #[Value.ref b] s) (F0 mi_ 1529 ls [])) : W pg_ l ev_ room_1 s mi_ #[Value.ref b] below_ meth cd_ H locs 294 18964 (lw_Z below_ #[Value.ref b] s) (F0 mi_ 1450 ls []) := by
  obtain ⟨F, hK, hN, hOc, hOm, hX, hbl, hL, hTc, hTm, hdis, hh0, hg0⟩ := id B0
  obtain ⟨hx, hb, hr, hml, hown, hlk, hw, -⟩ := id F
  have hbA : ¬ lawA s b := fun q => absurd q (by unfold lawA; omega)
  obtain ⟨kr, ks, kb, x1, y1, x2, y2, x3, y3, x4, y4, Da1, Sa1, Qa1, Da2, Sa2, Qa2, Da3, Sa3, Qa3, Da4, Sa4, Qa4⟩ := g
  obtain ⟨X0, W0, V0, A0, B1, K0, Z, Y0, Y1, u, hu, hX0, hW0, hV0, hA0, hK0, hqX0, hmW0, hy0, hy1, hTie0, hM⟩ := hMs
  obtain ⟨ht, hT8⟩ := ht
  have hg : ((kr = [26] ∧ ks = [27]) ∨ (kr = [27] ∧ ks = [26])) ∧ (0 ≤ kb ∧ kb ≤ 3) ∧ (0 ≤ x1 ∧ x1 ≤ 12) ∧ (0 ≤ y1 ∧ y1 ≤ 14) ∧ (0 ≤ x2 ∧ x2 ≤ 12) ∧ (0 ≤ y2 ∧ y2 ≤ 14) ∧ (0 ≤ x3 ∧ x3 ≤ 12) ∧ (0 ≤ y3 ∧ y3 ≤ 14) ∧ (0 ≤ x4 ∧ x4 ≤ 12) ∧ (0 ≤ y4 ∧ y4 ≤ 14) ∧ ivP 12 (-2) 11 Da1 ∧ ivP 12 (-2147483648) 2147483647 Sa1 ∧ ivP 48 (-2147483648) 2147483647 Qa1 ∧ ivP 12 (-2) 11 Da2 ∧ ivP 12 (-2147483648) 2147483647 Sa2 ∧ ivP 48 (-2147483648) 2147483647 Qa2 ∧ ivP 12 (-2) 11 Da3 ∧ ivP 12 (-2147483648) 2147483647 Sa3 ∧ ivP 48 (-2147483648) 2147483647 Qa3 ∧ ivP 12 (-2) 11 Da4 ∧ ivP 12 (-2147483648) 2147483647 Sa4 ∧ ivP 48 (-2147483648) 2147483647 Qa4 := hg
  obtain ⟨hkk, hkb, hx1, hy1_, hx2, hy2_, hx3, hy3_, hx4, hy4_, hDa1, hSa1, hQa1, hDa2, hSa2, hQa2, hDa3, hSa3, hQa3, hDa4, hSa4, hQa4⟩ := hg
  have hC : TH (eC l G k tC aX aV) (tbC (dayD (.inl (0, 18))) (dayD (.inl (0, 18))) (riverD (.inl (x1, x1)) (.inl (y1, y1)) (.inl (0, 4)) 31 33 35 39 43 47) (riverD (.inl (x2, x2)) (.inl (y2, y2)) (.inl (0, 4)) 32 34 36 40 44 48) (rcD (.inl (t, t)) (.inr kr) (.inr ks) (.inl (kb, kb))) (rdD (.inl (0, 400)) (.inl (0, 400)) (.inl (0, 4000)) (.inl (0, 1)) (.inr [26, 27])) (xB 400 T) A14F A14F A4F A4F A14F A14F (riverD (.inl (x3, x3)) (.inl (y3, y3)) (.inl (0, 4)) 3 8 3 41 45 49) (riverD (.inl (x4, x4)) (.inl (y4, y4)) (.inl (0, 4)) 3 8 3 42 46 50) (xD 12 Da1) (xD 12 Da2) (xD 12 Da3) (xD 12 Da4) (xD 12 Sa1) (xD 12 Sa2) (xD 12 Sa3) (xD 12 Sa4) (xD 48 Qa1) (xD 48 Qa2) (xD 48 Qa3) (xD 48 Qa4)) H := hC
  have hTie : (kr = [26] → rowT x1 Da1 Sa1 Qa1 Z) ∧ (kr = [27] → rowT x2 Da2 Sa2 Qa2 Z) ∧ gI K0 0 = kb % 2 ∧ gI K0 1 = kb / 2 ∧ (kb % 2 = 1 → rowT x3 Da3 Sa3 Qa3 Y0) ∧ (kb / 2 = 1 → rowT x4 Da4 Sa4 Qa4 Y1) := hTie0
  clear hTie0
  have hk1 : (i + 1).toInt = i.toInt + 1 := by
    have h1 := i_add (x := i) (y := 1) (by rw [show (1 : Int32).toInt = 1 by decide]; omega) (by rw [show (1 : Int32).toInt = 1 by decide]; omega)
    rw [show (1 : Int32).toInt = 1 by decide] at h1
    exact h1
  have hk2 : (i + 2).toInt = i.toInt + 2 := by
    have h1 := i_add (x := i) (y := 2) (by rw [show (2 : Int32).toInt = 2 by decide]; omega) (by rw [show (2 : Int32).toInt = 2 by decide]; omega)
    rw [show (2 : Int32).toInt = 2 by decide] at h1
    exact h1
  refine lv_aload_n hx hb dL_law_1450 rfl (lv_at hl 2 rfl) ?_
  refine lv_aload_n hx hb dL_law_1451 rfl (lv_at hl 3 rfl) ?_
  refine lv_iload_n hx hb dL_law_1452 rfl (lv_at hl 0 rfl) ?_
  refine lv_iconst (v := 1) hx hb dL_law_1453 (by decide) ?_
  refine lv_iadd hx hb dL_law_1454 ?_
  refine va_sld hx hb hX hbl hbA hS (vinT (by rw [hk1]; omega)) dL_law_1455 ?_
  refine lv_topi (fun a1_0 ea1_0 => ?_)
  refine lv_aload_n hx hb dL_law_1456 rfl (lv_at hl 3 rfl) ?_
  refine lv_iload_n hx hb dL_law_1457 rfl (lv_at hl 0 rfl) ?_
  refine lv_iconst (v := 2) hx hb dL_law_1458 (by decide) ?_
  refine lv_iadd hx hb dL_law_1459 ?_
  refine va_sld hx hb hX hbl hbA hS (vinT (by rw [hk2]; omega)) dL_law_1460 ?_
  refine lv_topi (fun a2_0 ea2_0 => ?_)
  have hkr : ∀ t ∈ kr, t ∈ [26, 27] := by rcases hkk with ⟨h9_, -⟩ | ⟨h9_, -⟩ <;> rw [h9_] <;> decide
  have hks : ∀ t ∈ ks, t ∈ [26, 27] := by rcases hkk with ⟨-, h9_⟩ | ⟨-, h9_⟩ <;> rw [h9_] <;> decide
  refine lawVi (E := (eC l G k tC aX aV)) (b := h0) (As := [.int a1_0, .int a2_0]) (rest := []) F hK hN hOc hTc (c_X6_share (eC l G k tC aX aV) (rdD (.inl (0, 400)) (.inl (0, 400)) (.inl (0, 4000)) (.inl (0, 1)) (.inr [26, 27])) (xB 400 T) (kb, kb) (x1, x1) (y1, y1) (x2, x2) (y2, y2) (x3, x3) (y3, y3) (x4, x4) (y4, y4) kr ks (fun f_ => f_ = Da1) (fun f_ => f_ = Da2) (fun f_ => f_ = Da3) (fun f_ => f_ = Da4) (fun f_ => f_ = Sa1) (fun f_ => f_ = Sa2) (fun f_ => f_ = Sa3) (fun f_ => f_ = Sa4) (fun f_ => f_ = Qa1) (fun f_ => f_ = Qa2) (fun f_ => f_ = Qa3) (fun f_ => f_ = Qa4) t h0 a1_0 a2_0 (List.mem_singleton.mpr hh0) (by omega) (by show 0 ≤ x1 ∧ x1 ≤ 12; omega) (by show 0 ≤ y1 ∧ y1 ≤ 14; omega) (by show 0 ≤ x2 ∧ x2 ≤ 12; omega) (by show 0 ≤ y2 ∧ y2 ≤ 14; omega) (by show 0 ≤ x3 ∧ x3 ≤ 12; omega) (by show 0 ≤ y3 ∧ y3 ≤ 14; omega) (by show 0 ≤ x4 ∧ x4 ≤ 12; omega) (by show 0 ≤ y4 ∧ y4 ≤ 14; omega) hkr hks (fun f_ h_ => ivX hDa1 h_) (fun f_ h_ => ivX hDa2 h_) (fun f_ h_ => ivX hDa3 h_) (fun f_ h_ => ivX hDa4 h_) (fun f_ h_ => ivX hSa1 h_) (fun f_ h_ => ivX hSa2 h_) (fun f_ h_ => ivX hSa3 h_) (fun f_ h_ => ivX hSa4 h_) (fun f_ h_ => ivX hQa1 h_) (fun f_ h_ => ivX hQa2 h_) (fun f_ h_ => ivX hQa3 h_) (fun f_ h_ => ivX hQa4 h_)) mv_X6_share wd_59_11 ⟨Nat.le_of_ble_eq_true rfl, Nat.le_of_ble_eq_true rfl⟩ ⟨Nat.le_of_ble_eq_true rfl, Nat.le_of_ble_eq_true rfl⟩ hC hS (tRecv hK hC (by rw [show eT (eC l G k tC aX aV) h0 = 28 from hh0]; rfl) clX6) rfl hl.1 (Nat.le_of_ble_eq_true rfl) dL_law_1461 (fun v0 H1 locs hq hk_ hS => ?_)
  obtain ⟨f0_0, hN_⟩ := hq
  have hM := keptM hdis hM hk_
  have hC : TH (eC l G k tC aX aV) (tbC (dayD (.inl (0, 18))) (dayD (.inl (0, 18))) (riverD (.inl (x1, x1)) (.inl (y1, y1)) (.inl (0, 4)) 31 33 35 39 43 47) (riverD (.inl (x2, x2)) (.inl (y2, y2)) (.inl (0, 4)) 32 34 36 40 44 48) (rcD (.inl (t, t)) (.inr kr) (.inr ks) (.inl (kb, kb))) (rdD (.inl (0, 400)) (.inl (0, 400)) (.inl (0, 4000)) (.inl (0, 1)) (.inr [26, 27])) (xB 400 T) A14F A14F A4F A4F A14F A14F (riverD (.inl (x3, x3)) (.inl (y3, y3)) (.inl (0, 4)) 3 8 3 41 45 49) (riverD (.inl (x4, x4)) (.inl (y4, y4)) (.inl (0, 4)) 3 8 3 42 46 50) (xD 12 Da1) (xD 12 Da2) (xD 12 Da3) (xD 12 Da4) (xD 12 Sa1) (xD 12 Sa2) (xD 12 Sa3) (xD 12 Sa4) (xD 48 Qa1) (xD 48 Qa2) (xD 48 Qa3) (xD 48 Qa4)) H1 := hN_
  refine lv_pop hx hb dL_law_1464 rfl ?_
  refine lv_aload_n hx hb dL_law_1465 rfl (lv_at hl 1 rfl) ?_
  refine lv_aload_n hx hb dL_law_1466 rfl (lv_at hl 3 rfl) ?_
  refine lv_iload_n hx hb dL_law_1467 rfl (lv_at hl 0 rfl) ?_
  refine lv_iconst (v := 1) hx hb dL_law_1468 (by decide) ?_
  refine lv_iadd hx hb dL_law_1469 ?_
  refine va_sld hx hb hX hbl hbA hS (vinT (by rw [hk1]; omega)) dL_law_1470 ?_
  refine lv_topi (fun a1_1 ea1_1 => ?_)
  obtain rfl : a1_0 = a1_1 := ea1_0.trans ea1_1.symm
  refine lv_aload_n hx hb dL_law_1471 rfl (lv_at hl 3 rfl) ?_
  refine lv_iload_n hx hb dL_law_1472 rfl (lv_at hl 0 rfl) ?_
  refine lv_iconst (v := 2) hx hb dL_law_1473 (by decide) ?_
  refine lv_iadd hx hb dL_law_1474 ?_
  refine va_sld hx hb hX hbl hbA hS (vinT (by rw [hk2]; omega)) dL_law_1475 ?_
  refine lv_topi (fun a2_1 ea2_1 => ?_)
  obtain rfl : a2_0 = a2_1 := ea2_0.trans ea2_1.symm
  refine lawVi (E := (eM l G k tM aX aV)) (b := g0) (As := [.int a1_0, .int a2_0]) (rest := []) F hK hN hOm hTm (c_X7_share (eM l G k tM aX aV) (xD 6600 W0) (xD 1320 V0) (xD 660 B1) (xB 400 T) (xZ 2 K0) (u, u) (((-2147483648), 2147483647)) (t, t) (((-2147483648), 2147483647)) (0, 4000) (((-2147483648), 2147483647)) (((-2147483648), 2147483647)) (0, 1) X0 A0 Z g0 a1_0 a2_0 (List.mem_singleton.mpr hg0) hX0 hA0 hqX0) mv_X7_share wd_59_20 ⟨Nat.le_of_ble_eq_true rfl, Nat.le_of_ble_eq_true rfl⟩ ⟨Nat.le_of_ble_eq_true rfl, Nat.le_of_ble_eq_true rfl⟩ hM hS (tRecv hK hM (by rw [show eT (eM l G k tM aX aV) g0 = 24 from hg0]; rfl) clX7) rfl hl.1 (Nat.le_of_ble_eq_true rfl) dL_law_1476 (fun v1 H1 locs hq hk_ hS => ?_)
  obtain ⟨X2_1, hX2_1, A2_1, hA2_1, f1_0, hN_⟩ := hq
  have hC := keptC hdis hC hk_
  have hM : TH (eM l G k tM aX aV) (tbM (mD (.inl (t, t)) (.inl (-2147483648, 2147483647)) (.inl (-2147483648, 2147483647)) (.inl (u, u)) (.inl (0, 18)) (.inl (-2147483648, 2147483647)) (.inl (0, 4000)) (.inl (-2147483648, 2147483647)) (.inl (0, 1))) (xD 660 X2_1) (xD 6600 W0) (xD 1320 V0) (xD 660 A2_1) (xD 660 B1) m_second (xB 400 T) (xZ 2 K0)) H1 := hN_
  refine lv_pop hx hb dL_law_1479 rfl ?_
  refine lv_goto (tgt := 1529) hx hb dL_law_1480 (by decide) ?_
  have hG_ : ((kr = [26] ∧ ks = [27]) ∨ (kr = [27] ∧ ks = [26])) ∧ (0 ≤ kb ∧ kb ≤ 3) ∧ (0 ≤ x1 ∧ x1 ≤ 12) ∧ (0 ≤ y1 ∧ y1 ≤ 14) ∧ (0 ≤ x2 ∧ x2 ≤ 12) ∧ (0 ≤ y2 ∧ y2 ≤ 14) ∧ (0 ≤ x3 ∧ x3 ≤ 12) ∧ (0 ≤ y3 ∧ y3 ≤ 14) ∧ (0 ≤ x4 ∧ x4 ≤ 12) ∧ (0 ≤ y4 ∧ y4 ≤ 14) ∧ ivP 12 (-2) 11 Da1 ∧ ivP 12 (-2147483648) 2147483647 Sa1 ∧ ivP 48 (-2147483648) 2147483647 Qa1 ∧ ivP 12 (-2) 11 Da2 ∧ ivP 12 (-2147483648) 2147483647 Sa2 ∧ ivP 48 (-2147483648) 2147483647 Qa2 ∧ ivP 12 (-2) 11 Da3 ∧ ivP 12 (-2147483648) 2147483647 Sa3 ∧ ivP 48 (-2147483648) 2147483647 Qa3 ∧ ivP 12 (-2) 11 Da4 ∧ ivP 12 (-2147483648) 2147483647 Sa4 ∧ ivP 48 (-2147483648) 2147483647 Qa4 := ⟨hkk, (by omega), (by omega), (by omega), (by omega), (by omega), (by omega), (by omega), (by omega), (by omega), hDa1, hSa1, hQa1, hDa2, hSa2, hQa2, hDa3, hSa3, hQa3, hDa4, hSa4, hQa4⟩
  exact hend t T (kr, ks, kb, x1, y1, x2, y2, x3, y3, x4, y4, Da1, Sa1, Qa1, Da2, Sa2, Qa2, Da3, Sa3, Qa3, Da4, Sa4, Qa4) _ _ ⟨(by omega), hT8⟩ hG_ hC ⟨X2_1, W0, V0, A2_1, B1, K0, Z, Y0, Y1, u, (by omega), hX2_1.1, hW0, hV0, hA2_1, hK0, hX2_1.2, hmW0, hy0, hy1, hTie, hM⟩ hS
set_option maxHeartbeats 4000000 in
set_option maxRecDepth 100000 in
theorem law_c41 {pg_ : Program} {l : Launch} {ev_ : Env} {s : State} {mi_ : MethodId} {below_ : List Frame} {meth : Method} {cd_ : Code} {H : Heap} {locs : List Loc} {ls : Array Slot} {b L : Nat} {xs : Nat → Int32} {G : va_G} {k : Nat → ClassId} {tC tM aX aV : Nat → Nat} {h0 g0 : Nat} {i : Int32} {t : Int} {T : RwF} {g : Gs} (B0 : LB pg_ s mi_ meth cd_ b L xs l G k tC tM aX aV h0 g0) (hi : 0 ≤ i.toInt ∧ i.toInt + 6 ≤ L) (ht : (0 ≤ t ∧ t ≤ 400) ∧ ivP 400 (-128) 127 T) (hg : Gok g) (hC : Cs (eC l G k tC aX aV) t T g H) (hMs : Ms (eM l G k tM aX aV) t T g H) (hS : va_S (lawA s) s.heap H locs) (hl : lv_has ls 4 [(3, .int i), (2, .ref g0), (1, .ref h0), (0, .ref b)]) (hend : ∀ (t : Int) (T : RwF) (g : Gs) (H : Heap) (locs : List Loc), ((0 ≤ t ∧ t ≤ 400) ∧ ivP 400 (-128) 127 T) → Gok g → Cs (eC l G k tC aX aV) t T g H → Ms (eM l G k tM aX aV) t T g H → va_S (lawA s) s.heap H locs → W pg_ l ev_ room_1 s mi_ #[Value.ref b] below_ meth cd_ H locs 294 18964 (lw_Z below_ #[Value.ref b] s) (F0 mi_ 1529 ls [])) : W pg_ l ev_ room_1 s mi_ #[Value.ref b] below_ meth cd_ H locs 294 18964 (lw_Z below_ #[Value.ref b] s) (F0 mi_ 1483 ls []) := by
  obtain ⟨F, hK, hN, hOc, hOm, hX, hbl, hL, hTc, hTm, hdis, hh0, hg0⟩ := id B0
  obtain ⟨hx, hb, hr, hml, hown, hlk, hw, -⟩ := id F
  have hbA : ¬ lawA s b := fun q => absurd q (by unfold lawA; omega)
  obtain ⟨kr, ks, kb, x1, y1, x2, y2, x3, y3, x4, y4, Da1, Sa1, Qa1, Da2, Sa2, Qa2, Da3, Sa3, Qa3, Da4, Sa4, Qa4⟩ := g
  obtain ⟨X0, W0, V0, A0, B1, K0, Z, Y0, Y1, u, hu, hX0, hW0, hV0, hA0, hK0, hqX0, hmW0, hy0, hy1, hTie0, hM⟩ := hMs
  obtain ⟨ht, hT8⟩ := ht
  have hg : ((kr = [26] ∧ ks = [27]) ∨ (kr = [27] ∧ ks = [26])) ∧ (0 ≤ kb ∧ kb ≤ 3) ∧ (0 ≤ x1 ∧ x1 ≤ 12) ∧ (0 ≤ y1 ∧ y1 ≤ 14) ∧ (0 ≤ x2 ∧ x2 ≤ 12) ∧ (0 ≤ y2 ∧ y2 ≤ 14) ∧ (0 ≤ x3 ∧ x3 ≤ 12) ∧ (0 ≤ y3 ∧ y3 ≤ 14) ∧ (0 ≤ x4 ∧ x4 ≤ 12) ∧ (0 ≤ y4 ∧ y4 ≤ 14) ∧ ivP 12 (-2) 11 Da1 ∧ ivP 12 (-2147483648) 2147483647 Sa1 ∧ ivP 48 (-2147483648) 2147483647 Qa1 ∧ ivP 12 (-2) 11 Da2 ∧ ivP 12 (-2147483648) 2147483647 Sa2 ∧ ivP 48 (-2147483648) 2147483647 Qa2 ∧ ivP 12 (-2) 11 Da3 ∧ ivP 12 (-2147483648) 2147483647 Sa3 ∧ ivP 48 (-2147483648) 2147483647 Qa3 ∧ ivP 12 (-2) 11 Da4 ∧ ivP 12 (-2147483648) 2147483647 Sa4 ∧ ivP 48 (-2147483648) 2147483647 Qa4 := hg
  obtain ⟨hkk, hkb, hx1, hy1_, hx2, hy2_, hx3, hy3_, hx4, hy4_, hDa1, hSa1, hQa1, hDa2, hSa2, hQa2, hDa3, hSa3, hQa3, hDa4, hSa4, hQa4⟩ := hg
  have hC : TH (eC l G k tC aX aV) (tbC (dayD (.inl (0, 18))) (dayD (.inl (0, 18))) (riverD (.inl (x1, x1)) (.inl (y1, y1)) (.inl (0, 4)) 31 33 35 39 43 47) (riverD (.inl (x2, x2)) (.inl (y2, y2)) (.inl (0, 4)) 32 34 36 40 44 48) (rcD (.inl (t, t)) (.inr kr) (.inr ks) (.inl (kb, kb))) (rdD (.inl (0, 400)) (.inl (0, 400)) (.inl (0, 4000)) (.inl (0, 1)) (.inr [26, 27])) (xB 400 T) A14F A14F A4F A4F A14F A14F (riverD (.inl (x3, x3)) (.inl (y3, y3)) (.inl (0, 4)) 3 8 3 41 45 49) (riverD (.inl (x4, x4)) (.inl (y4, y4)) (.inl (0, 4)) 3 8 3 42 46 50) (xD 12 Da1) (xD 12 Da2) (xD 12 Da3) (xD 12 Da4) (xD 12 Sa1) (xD 12 Sa2) (xD 12 Sa3) (xD 12 Sa4) (xD 48 Qa1) (xD 48 Qa2) (xD 48 Qa3) (xD 48 Qa4)) H := hC
  have hTie : (kr = [26] → rowT x1 Da1 Sa1 Qa1 Z) ∧ (kr = [27] → rowT x2 Da2 Sa2 Qa2 Z) ∧ gI K0 0 = kb % 2 ∧ gI K0 1 = kb / 2 ∧ (kb % 2 = 1 → rowT x3 Da3 Sa3 Qa3 Y0) ∧ (kb / 2 = 1 → rowT x4 Da4 Sa4 Qa4 Y1) := hTie0
  clear hTie0
  have hk1 : (i + 1).toInt = i.toInt + 1 := by
    have h1 := i_add (x := i) (y := 1) (by rw [show (1 : Int32).toInt = 1 by decide]; omega) (by rw [show (1 : Int32).toInt = 1 by decide]; omega)
    rw [show (1 : Int32).toInt = 1 by decide] at h1
    exact h1
  refine lv_aload_n hx hb dL_law_1483 rfl (lv_at hl 2 rfl) ?_
  refine lv_aload_n hx hb dL_law_1484 rfl (lv_at hl 3 rfl) ?_
  refine lv_iload_n hx hb dL_law_1485 rfl (lv_at hl 0 rfl) ?_
  refine lv_iconst (v := 1) hx hb dL_law_1486 (by decide) ?_
  refine lv_iadd hx hb dL_law_1487 ?_
  refine va_sld hx hb hX hbl hbA hS (vinT (by rw [hk1]; omega)) dL_law_1488 ?_
  refine lv_topi (fun a1_0 ea1_0 => ?_)
  have hkr : ∀ t ∈ kr, t ∈ [26, 27] := by rcases hkk with ⟨h9_, -⟩ | ⟨h9_, -⟩ <;> rw [h9_] <;> decide
  have hks : ∀ t ∈ ks, t ∈ [26, 27] := by rcases hkk with ⟨-, h9_⟩ | ⟨-, h9_⟩ <;> rw [h9_] <;> decide
  refine lawVi (E := (eC l G k tC aX aV)) (b := h0) (As := [.int a1_0]) (rest := []) F hK hN hOc hTc (c_X6_worst (eC l G k tC aX aV) (rdD (.inl (0, 400)) (.inl (0, 400)) (.inl (0, 4000)) (.inl (0, 1)) (.inr [26, 27])) (xB 400 T) (kb, kb) (x1, x1) (y1, y1) (x2, x2) (y2, y2) (x3, x3) (y3, y3) (x4, x4) (y4, y4) kr ks (fun f_ => f_ = Da1) (fun f_ => f_ = Da2) (fun f_ => f_ = Da3) (fun f_ => f_ = Da4) (fun f_ => f_ = Sa1) (fun f_ => f_ = Sa2) (fun f_ => f_ = Sa3) (fun f_ => f_ = Sa4) (fun f_ => f_ = Qa1) (fun f_ => f_ = Qa2) (fun f_ => f_ = Qa3) (fun f_ => f_ = Qa4) t h0 a1_0 (List.mem_singleton.mpr hh0) (by omega) (by show 0 ≤ x1 ∧ x1 ≤ 12; omega) (by show 0 ≤ y1 ∧ y1 ≤ 14; omega) (by show 0 ≤ x2 ∧ x2 ≤ 12; omega) (by show 0 ≤ y2 ∧ y2 ≤ 14; omega) (by show 0 ≤ x3 ∧ x3 ≤ 12; omega) (by show 0 ≤ y3 ∧ y3 ≤ 14; omega) (by show 0 ≤ x4 ∧ x4 ≤ 12; omega) (by show 0 ≤ y4 ∧ y4 ≤ 14; omega) hkr hks (fun f_ h_ => ivX hDa1 h_) (fun f_ h_ => ivX hDa2 h_) (fun f_ h_ => ivX hDa3 h_) (fun f_ h_ => ivX hDa4 h_) (fun f_ h_ => ivX hSa1 h_) (fun f_ h_ => ivX hSa2 h_) (fun f_ h_ => ivX hSa3 h_) (fun f_ h_ => ivX hSa4 h_) (fun f_ h_ => ivX hQa1 h_) (fun f_ h_ => ivX hQa2 h_) (fun f_ h_ => ivX hQa3 h_) (fun f_ h_ => ivX hQa4 h_)) mv_X6_worst wd_60_8 ⟨Nat.le_of_ble_eq_true rfl, Nat.le_of_ble_eq_true rfl⟩ ⟨Nat.le_of_ble_eq_true rfl, Nat.le_of_ble_eq_true rfl⟩ hC hS (tRecv hK hC (by rw [show eT (eC l G k tC aX aV) h0 = 28 from hh0]; rfl) clX6) rfl hl.1 (Nat.le_of_ble_eq_true rfl) dL_law_1489 (fun v0 H1 locs hq hk_ hS => ?_)
  obtain ⟨f0_0, hN_⟩ := hq
  have hM := keptM hdis hM hk_
  have hC : TH (eC l G k tC aX aV) (tbC (dayD (.inl (0, 18))) (dayD (.inl (0, 18))) (riverD (.inl (x1, x1)) (.inl (y1, y1)) (.inl (0, 4)) 31 33 35 39 43 47) (riverD (.inl (x2, x2)) (.inl (y2, y2)) (.inl (0, 4)) 32 34 36 40 44 48) (rcD (.inl (t, t)) (.inr kr) (.inr ks) (.inl (kb, kb))) (rdD (.inl (0, 400)) (.inl (0, 400)) (.inl (0, 4000)) (.inl (0, 1)) (.inr [26, 27])) (xB 400 T) A14F A14F A4F A4F A14F A14F (riverD (.inl (x3, x3)) (.inl (y3, y3)) (.inl (0, 4)) 3 8 3 41 45 49) (riverD (.inl (x4, x4)) (.inl (y4, y4)) (.inl (0, 4)) 3 8 3 42 46 50) (xD 12 Da1) (xD 12 Da2) (xD 12 Da3) (xD 12 Da4) (xD 12 Sa1) (xD 12 Sa2) (xD 12 Sa3) (xD 12 Sa4) (xD 48 Qa1) (xD 48 Qa2) (xD 48 Qa3) (xD 48 Qa4)) H1 := hN_
  refine lv_pop hx hb dL_law_1492 rfl ?_
  refine lv_aload_n hx hb dL_law_1493 rfl (lv_at hl 1 rfl) ?_
  refine lv_aload_n hx hb dL_law_1494 rfl (lv_at hl 3 rfl) ?_
  refine lv_iload_n hx hb dL_law_1495 rfl (lv_at hl 0 rfl) ?_
  refine lv_iconst (v := 1) hx hb dL_law_1496 (by decide) ?_
  refine lv_iadd hx hb dL_law_1497 ?_
  refine va_sld hx hb hX hbl hbA hS (vinT (by rw [hk1]; omega)) dL_law_1498 ?_
  refine lv_topi (fun a1_1 ea1_1 => ?_)
  obtain rfl : a1_0 = a1_1 := ea1_0.trans ea1_1.symm
  refine lawVi (E := (eM l G k tM aX aV)) (b := g0) (As := [.int a1_0]) (rest := []) F hK hN hOm hTm (c_X7_worst (eM l G k tM aX aV) (xD 6600 W0) (xD 1320 V0) (xD 660 B1) (xB 400 T) (xZ 2 K0) (u, u) (((-2147483648), 2147483647)) (t, t) (((-2147483648), 2147483647)) (0, 4000) (((-2147483648), 2147483647)) (((-2147483648), 2147483647)) (0, 1) X0 A0 Z g0 a1_0 (List.mem_singleton.mpr hg0) hX0 hA0 hqX0) mv_X7_worst wd_60_12 ⟨Nat.le_of_ble_eq_true rfl, Nat.le_of_ble_eq_true rfl⟩ ⟨Nat.le_of_ble_eq_true rfl, Nat.le_of_ble_eq_true rfl⟩ hM hS (tRecv hK hM (by rw [show eT (eM l G k tM aX aV) g0 = 24 from hg0]; rfl) clX7) rfl hl.1 (Nat.le_of_ble_eq_true rfl) dL_law_1499 (fun v1 H1 locs hq hk_ hS => ?_)
  obtain ⟨X2_1, hX2_1, A2_1, hA2_1, f1_0, hN_⟩ := hq
  have hC := keptC hdis hC hk_
  have hM : TH (eM l G k tM aX aV) (tbM (mD (.inl (t, t)) (.inl (-2147483648, 2147483647)) (.inl (-2147483648, 2147483647)) (.inl (u, u)) (.inl (0, 18)) (.inl (-2147483648, 2147483647)) (.inl (0, 4000)) (.inl (-2147483648, 2147483647)) (.inl (0, 1))) (xD 660 X2_1) (xD 6600 W0) (xD 1320 V0) (xD 660 A2_1) (xD 660 B1) m_second (xB 400 T) (xZ 2 K0)) H1 := hN_
  refine lv_pop hx hb dL_law_1502 rfl ?_
  refine lv_goto (tgt := 1529) hx hb dL_law_1503 (by decide) ?_
  have hG_ : ((kr = [26] ∧ ks = [27]) ∨ (kr = [27] ∧ ks = [26])) ∧ (0 ≤ kb ∧ kb ≤ 3) ∧ (0 ≤ x1 ∧ x1 ≤ 12) ∧ (0 ≤ y1 ∧ y1 ≤ 14) ∧ (0 ≤ x2 ∧ x2 ≤ 12) ∧ (0 ≤ y2 ∧ y2 ≤ 14) ∧ (0 ≤ x3 ∧ x3 ≤ 12) ∧ (0 ≤ y3 ∧ y3 ≤ 14) ∧ (0 ≤ x4 ∧ x4 ≤ 12) ∧ (0 ≤ y4 ∧ y4 ≤ 14) ∧ ivP 12 (-2) 11 Da1 ∧ ivP 12 (-2147483648) 2147483647 Sa1 ∧ ivP 48 (-2147483648) 2147483647 Qa1 ∧ ivP 12 (-2) 11 Da2 ∧ ivP 12 (-2147483648) 2147483647 Sa2 ∧ ivP 48 (-2147483648) 2147483647 Qa2 ∧ ivP 12 (-2) 11 Da3 ∧ ivP 12 (-2147483648) 2147483647 Sa3 ∧ ivP 48 (-2147483648) 2147483647 Qa3 ∧ ivP 12 (-2) 11 Da4 ∧ ivP 12 (-2147483648) 2147483647 Sa4 ∧ ivP 48 (-2147483648) 2147483647 Qa4 := ⟨hkk, (by omega), (by omega), (by omega), (by omega), (by omega), (by omega), (by omega), (by omega), (by omega), hDa1, hSa1, hQa1, hDa2, hSa2, hQa2, hDa3, hSa3, hQa3, hDa4, hSa4, hQa4⟩
  exact hend t T (kr, ks, kb, x1, y1, x2, y2, x3, y3, x4, y4, Da1, Sa1, Qa1, Da2, Sa2, Qa2, Da3, Sa3, Qa3, Da4, Sa4, Qa4) _ _ ⟨(by omega), hT8⟩ hG_ hC ⟨X2_1, W0, V0, A2_1, B1, K0, Z, Y0, Y1, u, (by omega), hX2_1.1, hW0, hV0, hA2_1, hK0, hX2_1.2, hmW0, hy0, hy1, hTie, hM⟩ hS
set_option maxHeartbeats 4000000 in
set_option maxRecDepth 100000 in
theorem law_c42 {pg_ : Program} {l : Launch} {ev_ : Env} {s : State} {mi_ : MethodId} {below_ : List Frame} {meth : Method} {cd_ : Code} {H : Heap} {locs : List Loc} {ls : Array Slot} {b L : Nat} {xs : Nat → Int32} {G : va_G} {k : Nat → ClassId} {tC tM aX aV : Nat → Nat} {h0 g0 : Nat} {i : Int32} {t : Int} {T : RwF} {g : Gs} (B0 : LB pg_ s mi_ meth cd_ b L xs l G k tC tM aX aV h0 g0) (hi : 0 ≤ i.toInt ∧ i.toInt + 6 ≤ L) (ht : (0 ≤ t ∧ t ≤ 400) ∧ ivP 400 (-128) 127 T) (hg : Gok g) (hC : Cs (eC l G k tC aX aV) t T g H) (hMs : Ms (eM l G k tM aX aV) t T g H) (hS : va_S (lawA s) s.heap H locs) (hl : lv_has ls 4 [(3, .int i), (2, .ref g0), (1, .ref h0), (0, .ref b)]) (hend : ∀ (t : Int) (T : RwF) (g : Gs) (H : Heap) (locs : List Loc), ((0 ≤ t ∧ t ≤ 400) ∧ ivP 400 (-128) 127 T) → Gok g → Cs (eC l G k tC aX aV) t T g H → Ms (eM l G k tM aX aV) t T g H → va_S (lawA s) s.heap H locs → W pg_ l ev_ room_1 s mi_ #[Value.ref b] below_ meth cd_ H locs 294 18964 (lw_Z below_ #[Value.ref b] s) (F0 mi_ 1529 ls [])) : W pg_ l ev_ room_1 s mi_ #[Value.ref b] below_ meth cd_ H locs 294 18964 (lw_Z below_ #[Value.ref b] s) (F0 mi_ 1506 ls []) := by
  obtain ⟨F, hK, hN, hOc, hOm, hX, hbl, hL, hTc, hTm, hdis, hh0, hg0⟩ := id B0
  obtain ⟨hx, hb, hr, hml, hown, hlk, hw, -⟩ := id F
  have hbA : ¬ lawA s b := fun q => absurd q (by unfold lawA; omega)
  obtain ⟨kr, ks, kb, x1, y1, x2, y2, x3, y3, x4, y4, Da1, Sa1, Qa1, Da2, Sa2, Qa2, Da3, Sa3, Qa3, Da4, Sa4, Qa4⟩ := g
  obtain ⟨X0, W0, V0, A0, B1, K0, Z, Y0, Y1, u, hu, hX0, hW0, hV0, hA0, hK0, hqX0, hmW0, hy0, hy1, hTie0, hM⟩ := hMs
  obtain ⟨ht, hT8⟩ := ht
  have hg : ((kr = [26] ∧ ks = [27]) ∨ (kr = [27] ∧ ks = [26])) ∧ (0 ≤ kb ∧ kb ≤ 3) ∧ (0 ≤ x1 ∧ x1 ≤ 12) ∧ (0 ≤ y1 ∧ y1 ≤ 14) ∧ (0 ≤ x2 ∧ x2 ≤ 12) ∧ (0 ≤ y2 ∧ y2 ≤ 14) ∧ (0 ≤ x3 ∧ x3 ≤ 12) ∧ (0 ≤ y3 ∧ y3 ≤ 14) ∧ (0 ≤ x4 ∧ x4 ≤ 12) ∧ (0 ≤ y4 ∧ y4 ≤ 14) ∧ ivP 12 (-2) 11 Da1 ∧ ivP 12 (-2147483648) 2147483647 Sa1 ∧ ivP 48 (-2147483648) 2147483647 Qa1 ∧ ivP 12 (-2) 11 Da2 ∧ ivP 12 (-2147483648) 2147483647 Sa2 ∧ ivP 48 (-2147483648) 2147483647 Qa2 ∧ ivP 12 (-2) 11 Da3 ∧ ivP 12 (-2147483648) 2147483647 Sa3 ∧ ivP 48 (-2147483648) 2147483647 Qa3 ∧ ivP 12 (-2) 11 Da4 ∧ ivP 12 (-2147483648) 2147483647 Sa4 ∧ ivP 48 (-2147483648) 2147483647 Qa4 := hg
  obtain ⟨hkk, hkb, hx1, hy1_, hx2, hy2_, hx3, hy3_, hx4, hy4_, hDa1, hSa1, hQa1, hDa2, hSa2, hQa2, hDa3, hSa3, hQa3, hDa4, hSa4, hQa4⟩ := hg
  have hC : TH (eC l G k tC aX aV) (tbC (dayD (.inl (0, 18))) (dayD (.inl (0, 18))) (riverD (.inl (x1, x1)) (.inl (y1, y1)) (.inl (0, 4)) 31 33 35 39 43 47) (riverD (.inl (x2, x2)) (.inl (y2, y2)) (.inl (0, 4)) 32 34 36 40 44 48) (rcD (.inl (t, t)) (.inr kr) (.inr ks) (.inl (kb, kb))) (rdD (.inl (0, 400)) (.inl (0, 400)) (.inl (0, 4000)) (.inl (0, 1)) (.inr [26, 27])) (xB 400 T) A14F A14F A4F A4F A14F A14F (riverD (.inl (x3, x3)) (.inl (y3, y3)) (.inl (0, 4)) 3 8 3 41 45 49) (riverD (.inl (x4, x4)) (.inl (y4, y4)) (.inl (0, 4)) 3 8 3 42 46 50) (xD 12 Da1) (xD 12 Da2) (xD 12 Da3) (xD 12 Da4) (xD 12 Sa1) (xD 12 Sa2) (xD 12 Sa3) (xD 12 Sa4) (xD 48 Qa1) (xD 48 Qa2) (xD 48 Qa3) (xD 48 Qa4)) H := hC
  have hTie : (kr = [26] → rowT x1 Da1 Sa1 Qa1 Z) ∧ (kr = [27] → rowT x2 Da2 Sa2 Qa2 Z) ∧ gI K0 0 = kb % 2 ∧ gI K0 1 = kb / 2 ∧ (kb % 2 = 1 → rowT x3 Da3 Sa3 Qa3 Y0) ∧ (kb / 2 = 1 → rowT x4 Da4 Sa4 Qa4 Y1) := hTie0
  clear hTie0
  have hk1 : (i + 1).toInt = i.toInt + 1 := by
    have h1 := i_add (x := i) (y := 1) (by rw [show (1 : Int32).toInt = 1 by decide]; omega) (by rw [show (1 : Int32).toInt = 1 by decide]; omega)
    rw [show (1 : Int32).toInt = 1 by decide] at h1
    exact h1
  refine lv_aload_n hx hb dL_law_1506 rfl (lv_at hl 2 rfl) ?_
  refine lv_aload_n hx hb dL_law_1507 rfl (lv_at hl 3 rfl) ?_
  refine lv_iload_n hx hb dL_law_1508 rfl (lv_at hl 0 rfl) ?_
  refine lv_iconst (v := 1) hx hb dL_law_1509 (by decide) ?_
  refine lv_iadd hx hb dL_law_1510 ?_
  refine va_sld hx hb hX hbl hbA hS (vinT (by rw [hk1]; omega)) dL_law_1511 ?_
  refine lv_topi (fun a1_0 ea1_0 => ?_)
  have hkr : ∀ t ∈ kr, t ∈ [26, 27] := by rcases hkk with ⟨h9_, -⟩ | ⟨h9_, -⟩ <;> rw [h9_] <;> decide
  have hks : ∀ t ∈ ks, t ∈ [26, 27] := by rcases hkk with ⟨-, h9_⟩ | ⟨-, h9_⟩ <;> rw [h9_] <;> decide
  refine lawVi (E := (eC l G k tC aX aV)) (b := h0) (As := [.int a1_0]) (rest := []) F hK hN hOc hTc (c_X6_count (eC l G k tC aX aV) (rdD (.inl (0, 400)) (.inl (0, 400)) (.inl (0, 4000)) (.inl (0, 1)) (.inr [26, 27])) (xB 400 T) (kb, kb) (x1, x1) (y1, y1) (x2, x2) (y2, y2) (x3, x3) (y3, y3) (x4, x4) (y4, y4) kr ks (fun f_ => f_ = Da1) (fun f_ => f_ = Da2) (fun f_ => f_ = Da3) (fun f_ => f_ = Da4) (fun f_ => f_ = Sa1) (fun f_ => f_ = Sa2) (fun f_ => f_ = Sa3) (fun f_ => f_ = Sa4) (fun f_ => f_ = Qa1) (fun f_ => f_ = Qa2) (fun f_ => f_ = Qa3) (fun f_ => f_ = Qa4) t h0 a1_0 (List.mem_singleton.mpr hh0) (by omega) (by show 0 ≤ x1 ∧ x1 ≤ 12; omega) (by show 0 ≤ y1 ∧ y1 ≤ 14; omega) (by show 0 ≤ x2 ∧ x2 ≤ 12; omega) (by show 0 ≤ y2 ∧ y2 ≤ 14; omega) (by show 0 ≤ x3 ∧ x3 ≤ 12; omega) (by show 0 ≤ y3 ∧ y3 ≤ 14; omega) (by show 0 ≤ x4 ∧ x4 ≤ 12; omega) (by show 0 ≤ y4 ∧ y4 ≤ 14; omega) hkr hks (fun f_ h_ => ivX hDa1 h_) (fun f_ h_ => ivX hDa2 h_) (fun f_ h_ => ivX hDa3 h_) (fun f_ h_ => ivX hDa4 h_) (fun f_ h_ => ivX hSa1 h_) (fun f_ h_ => ivX hSa2 h_) (fun f_ h_ => ivX hSa3 h_) (fun f_ h_ => ivX hSa4 h_) (fun f_ h_ => ivX hQa1 h_) (fun f_ h_ => ivX hQa2 h_) (fun f_ h_ => ivX hQa3 h_) (fun f_ h_ => ivX hQa4 h_)) mv_X6_count wd_60_16 ⟨Nat.le_of_ble_eq_true rfl, Nat.le_of_ble_eq_true rfl⟩ ⟨Nat.le_of_ble_eq_true rfl, Nat.le_of_ble_eq_true rfl⟩ hC hS (tRecv hK hC (by rw [show eT (eC l G k tC aX aV) h0 = 28 from hh0]; rfl) clX6) rfl hl.1 (Nat.le_of_ble_eq_true rfl) dL_law_1512 (fun v0 H1 locs hq hk_ hS => ?_)
  obtain ⟨f0_0, hN_⟩ := hq
  have hM := keptM hdis hM hk_
  have hC : TH (eC l G k tC aX aV) (tbC (dayD (.inl (0, 18))) (dayD (.inl (0, 18))) (riverD (.inl (x1, x1)) (.inl (y1, y1)) (.inl (0, 4)) 31 33 35 39 43 47) (riverD (.inl (x2, x2)) (.inl (y2, y2)) (.inl (0, 4)) 32 34 36 40 44 48) (rcD (.inl (t, t)) (.inr kr) (.inr ks) (.inl (kb, kb))) (rdD (.inl (0, 400)) (.inl (0, 400)) (.inl (0, 4000)) (.inl (0, 1)) (.inr [26, 27])) (xB 400 T) A14F A14F A4F A4F A14F A14F (riverD (.inl (x3, x3)) (.inl (y3, y3)) (.inl (0, 4)) 3 8 3 41 45 49) (riverD (.inl (x4, x4)) (.inl (y4, y4)) (.inl (0, 4)) 3 8 3 42 46 50) (xD 12 Da1) (xD 12 Da2) (xD 12 Da3) (xD 12 Da4) (xD 12 Sa1) (xD 12 Sa2) (xD 12 Sa3) (xD 12 Sa4) (xD 48 Qa1) (xD 48 Qa2) (xD 48 Qa3) (xD 48 Qa4)) H1 := hN_
  refine lv_pop hx hb dL_law_1515 rfl ?_
  refine lv_aload_n hx hb dL_law_1516 rfl (lv_at hl 1 rfl) ?_
  refine lv_aload_n hx hb dL_law_1517 rfl (lv_at hl 3 rfl) ?_
  refine lv_iload_n hx hb dL_law_1518 rfl (lv_at hl 0 rfl) ?_
  refine lv_iconst (v := 1) hx hb dL_law_1519 (by decide) ?_
  refine lv_iadd hx hb dL_law_1520 ?_
  refine va_sld hx hb hX hbl hbA hS (vinT (by rw [hk1]; omega)) dL_law_1521 ?_
  refine lv_topi (fun a1_1 ea1_1 => ?_)
  obtain rfl : a1_0 = a1_1 := ea1_0.trans ea1_1.symm
  refine lawVi (E := (eM l G k tM aX aV)) (b := g0) (As := [.int a1_0]) (rest := []) F hK hN hOm hTm (c_X7_count (eM l G k tM aX aV) (xD 6600 W0) (xD 1320 V0) (xD 660 A0) (xD 660 B1) m_second (xB 400 T) (u, u) (0, 18) (((-2147483648), 2147483647)) (t, t) (((-2147483648), 2147483647)) (0, 4000) (((-2147483648), 2147483647)) (((-2147483648), 2147483647)) (0, 1) X0 K0 g0 a1_0 (List.mem_singleton.mpr hg0) hX0 hK0) mv_X7_count wd_60_23 ⟨Nat.le_of_ble_eq_true rfl, Nat.le_of_ble_eq_true rfl⟩ ⟨Nat.le_of_ble_eq_true rfl, Nat.le_of_ble_eq_true rfl⟩ hM hS (tRecv hK hM (by rw [show eT (eM l G k tM aX aV) g0 = 24 from hg0]; rfl) clX7) rfl hl.1 (Nat.le_of_ble_eq_true rfl) dL_law_1522 (fun v1 H1 locs hq hk_ hS => ?_)
  obtain ⟨f1_0, hN_⟩ := hq
  have hC := keptC hdis hC hk_
  have hM : TH (eM l G k tM aX aV) (tbM (mD (.inl (t, t)) (.inl (-2147483648, 2147483647)) (.inl (-2147483648, 2147483647)) (.inl (u, u)) (.inl (0, 18)) (.inl (-2147483648, 2147483647)) (.inl (0, 4000)) (.inl (-2147483648, 2147483647)) (.inl (0, 1))) (xD 660 X0) (xD 6600 W0) (xD 1320 V0) (xD 660 A0) (xD 660 B1) m_second (xB 400 T) (xZ 2 K0)) H1 := hN_
  refine lv_pop hx hb dL_law_1525 rfl ?_
  refine lv_goto (tgt := 1529) hx hb dL_law_1526 (by decide) ?_
  have hG_ : ((kr = [26] ∧ ks = [27]) ∨ (kr = [27] ∧ ks = [26])) ∧ (0 ≤ kb ∧ kb ≤ 3) ∧ (0 ≤ x1 ∧ x1 ≤ 12) ∧ (0 ≤ y1 ∧ y1 ≤ 14) ∧ (0 ≤ x2 ∧ x2 ≤ 12) ∧ (0 ≤ y2 ∧ y2 ≤ 14) ∧ (0 ≤ x3 ∧ x3 ≤ 12) ∧ (0 ≤ y3 ∧ y3 ≤ 14) ∧ (0 ≤ x4 ∧ x4 ≤ 12) ∧ (0 ≤ y4 ∧ y4 ≤ 14) ∧ ivP 12 (-2) 11 Da1 ∧ ivP 12 (-2147483648) 2147483647 Sa1 ∧ ivP 48 (-2147483648) 2147483647 Qa1 ∧ ivP 12 (-2) 11 Da2 ∧ ivP 12 (-2147483648) 2147483647 Sa2 ∧ ivP 48 (-2147483648) 2147483647 Qa2 ∧ ivP 12 (-2) 11 Da3 ∧ ivP 12 (-2147483648) 2147483647 Sa3 ∧ ivP 48 (-2147483648) 2147483647 Qa3 ∧ ivP 12 (-2) 11 Da4 ∧ ivP 12 (-2147483648) 2147483647 Sa4 ∧ ivP 48 (-2147483648) 2147483647 Qa4 := ⟨hkk, (by omega), (by omega), (by omega), (by omega), (by omega), (by omega), (by omega), (by omega), (by omega), hDa1, hSa1, hQa1, hDa2, hSa2, hQa2, hDa3, hSa3, hQa3, hDa4, hSa4, hQa4⟩
  exact hend t T (kr, ks, kb, x1, y1, x2, y2, x3, y3, x4, y4, Da1, Sa1, Qa1, Da2, Sa2, Qa2, Da3, Sa3, Qa3, Da4, Sa4, Qa4) _ _ ⟨(by omega), hT8⟩ hG_ hC ⟨X0, W0, V0, A0, B1, K0, Z, Y0, Y1, u, (by omega), hX0, hW0, hV0, hA0, hK0, hqX0, hmW0, hy0, hy1, hTie, hM⟩ hS
