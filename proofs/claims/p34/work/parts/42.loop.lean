set_option maxHeartbeats 8000000 in
set_option maxRecDepth 100000 in
theorem law_disp {pg_ : Program} {l : Launch} {ev_ : Env} {s : State} {mi_ : MethodId} {below_ : List Frame} {meth : Method} {cd_ : Code} {H : Heap} {locs : List Loc} {ls : Array Slot} {b L : Nat} {xs : Nat → Int32} {G : va_G} {k : Nat → ClassId} {tC tM aX aV : Nat → Nat} {h0 g0 : Nat} {i x : Int32} {t : Int} {T : RwF} {g : Gs} (B0 : LB pg_ s mi_ meth cd_ b L xs l G k tC tM aX aV h0 g0) (hi : 0 ≤ i.toInt ∧ i.toInt + 6 ≤ L) (ht : (0 ≤ t ∧ t ≤ 400) ∧ ivP 400 (-128) 127 T) (hg : Gok g) (hC : Cs (eC l G k tC aX aV) t T g H) (hMs : Ms (eM l G k tM aX aV) t T g H) (hS : va_S (lawA s) s.heap H locs) (hl : lv_has ls 4 [(3, .int i), (2, .ref g0), (1, .ref h0), (0, .ref b)]) (hend : ∀ (t : Int) (T : RwF) (g : Gs) (H : Heap) (locs : List Loc), ((0 ≤ t ∧ t ≤ 400) ∧ ivP 400 (-128) 127 T) → Gok g → Cs (eC l G k tC aX aV) t T g H → Ms (eM l G k tM aX aV) t T g H → va_S (lawA s) s.heap H locs → W pg_ l ev_ room_1 s mi_ #[Value.ref b] below_ meth cd_ H locs 294 18964 (lw_Z below_ #[Value.ref b] s) (F0 mi_ 1529 ls [])) : W pg_ l ev_ room_1 s mi_ #[Value.ref b] below_ meth cd_ H locs 294 18964 (lw_Z below_ #[Value.ref b] s) (F0 mi_ 33 ls [.int x]) := by
  have F := B0.1
  by_cases h : x.toInt < 0 ∨ 42 < x.toInt
  · exact tTabOut (tgt := 1529) F dL_law_33 h (by decide) (hend t T g H locs ht hg hC hMs hS)
  · have key : ∀ j ∈ ([0, 1, 2, 3, 4, 5, 6, 7, 8, 9, 10, 11, 12, 13, 14, 15, 16, 17, 18, 19, 20, 21, 22, 23, 24, 25, 26, 27, 28, 29, 30, 31, 32, 33, 34, 35, 36, 37, 38, 39, 40, 41, 42] : List Nat), x.toInt = (j : Int) → W pg_ l ev_ room_1 s mi_ #[Value.ref b] below_ meth cd_ H locs 294 18964 (lw_Z below_ #[Value.ref b] s) (F0 mi_ 33 ls [.int x]) := by
      refine List.forall_mem_cons.mpr ⟨fun e => tTabIn (off := 187) (tgt := 220) F dL_law_33 e (by decide) (by decide) (by decide +kernel) (by decide) (law_c0 B0 hi ht hg hC hMs hS hl hend), ?_⟩
      refine List.forall_mem_cons.mpr ⟨fun e => tTabIn (off := 250) (tgt := 283) F dL_law_33 e (by decide) (by decide) (by decide +kernel) (by decide) (law_c1 B0 hi ht hg hC hMs hS hl hend), ?_⟩
      refine List.forall_mem_cons.mpr ⟨fun e => tTabIn (off := 273) (tgt := 306) F dL_law_33 e (by decide) (by decide) (by decide +kernel) (by decide) (law_c2 B0 hi ht hg hC hMs hS hl hend), ?_⟩
      refine List.forall_mem_cons.mpr ⟨fun e => tTabIn (off := 286) (tgt := 319) F dL_law_33 e (by decide) (by decide) (by decide +kernel) (by decide) (law_c3 B0 hi ht hg hC hMs hS hl hend), ?_⟩
      refine List.forall_mem_cons.mpr ⟨fun e => tTabIn (off := 309) (tgt := 342) F dL_law_33 e (by decide) (by decide) (by decide +kernel) (by decide) (law_c4 B0 hi ht hg hC hMs hS hl hend), ?_⟩
      refine List.forall_mem_cons.mpr ⟨fun e => tTabIn (off := 332) (tgt := 365) F dL_law_33 e (by decide) (by decide) (by decide +kernel) (by decide) (law_c5 B0 hi ht hg hC hMs hS hl hend), ?_⟩
      refine List.forall_mem_cons.mpr ⟨fun e => tTabIn (off := 365) (tgt := 398) F dL_law_33 e (by decide) (by decide) (by decide +kernel) (by decide) (law_c6 B0 hi ht hg hC hMs hS hl hend), ?_⟩
      refine List.forall_mem_cons.mpr ⟨fun e => tTabIn (off := 408) (tgt := 441) F dL_law_33 e (by decide) (by decide) (by decide +kernel) (by decide) (law_c7 B0 hi ht hg hC hMs hS hl hend), ?_⟩
      refine List.forall_mem_cons.mpr ⟨fun e => tTabIn (off := 441) (tgt := 474) F dL_law_33 e (by decide) (by decide) (by decide +kernel) (by decide) (law_c8 B0 hi ht hg hC hMs hS hl hend), ?_⟩
      refine List.forall_mem_cons.mpr ⟨fun e => tTabIn (off := 474) (tgt := 507) F dL_law_33 e (by decide) (by decide) (by decide +kernel) (by decide) (law_c9 B0 hi ht hg hC hMs hS hl hend), ?_⟩
      refine List.forall_mem_cons.mpr ⟨fun e => tTabIn (off := 507) (tgt := 540) F dL_law_33 e (by decide) (by decide) (by decide +kernel) (by decide) (law_c10 B0 hi ht hg hC hMs hS hl hend), ?_⟩
      refine List.forall_mem_cons.mpr ⟨fun e => tTabIn (off := 520) (tgt := 553) F dL_law_33 e (by decide) (by decide) (by decide +kernel) (by decide) (law_c11 B0 hi ht hg hC hMs hS hl hend), ?_⟩
      refine List.forall_mem_cons.mpr ⟨fun e => tTabIn (off := 543) (tgt := 576) F dL_law_33 e (by decide) (by decide) (by decide +kernel) (by decide) (law_c12 B0 hi ht hg hC hMs hS hl hend), ?_⟩
      refine List.forall_mem_cons.mpr ⟨fun e => tTabIn (off := 566) (tgt := 599) F dL_law_33 e (by decide) (by decide) (by decide +kernel) (by decide) (law_c13 B0 hi ht hg hC hMs hS hl hend), ?_⟩
      refine List.forall_mem_cons.mpr ⟨fun e => tTabIn (off := 599) (tgt := 632) F dL_law_33 e (by decide) (by decide) (by decide +kernel) (by decide) (law_c14 B0 hi ht hg hC hMs hS hl hend), ?_⟩
      refine List.forall_mem_cons.mpr ⟨fun e => tTabIn (off := 632) (tgt := 665) F dL_law_33 e (by decide) (by decide) (by decide +kernel) (by decide) (law_c15 B0 hi ht hg hC hMs hS hl hend), ?_⟩
      refine List.forall_mem_cons.mpr ⟨fun e => tTabIn (off := 665) (tgt := 698) F dL_law_33 e (by decide) (by decide) (by decide +kernel) (by decide) (law_c16 B0 hi ht hg hC hMs hS hl hend), ?_⟩
      refine List.forall_mem_cons.mpr ⟨fun e => tTabIn (off := 698) (tgt := 731) F dL_law_33 e (by decide) (by decide) (by decide +kernel) (by decide) (law_c17 B0 hi ht hg hC hMs hS hl hend), ?_⟩
      refine List.forall_mem_cons.mpr ⟨fun e => tTabIn (off := 731) (tgt := 764) F dL_law_33 e (by decide) (by decide) (by decide +kernel) (by decide) (law_c18 B0 hi ht hg hC hMs hS hl hend), ?_⟩
      refine List.forall_mem_cons.mpr ⟨fun e => tTabIn (off := 764) (tgt := 797) F dL_law_33 e (by decide) (by decide) (by decide +kernel) (by decide) (law_c19 B0 hi ht hg hC hMs hS hl hend), ?_⟩
      refine List.forall_mem_cons.mpr ⟨fun e => tTabIn (off := 787) (tgt := 820) F dL_law_33 e (by decide) (by decide) (by decide +kernel) (by decide) (law_c20 B0 hi ht hg hC hMs hS hl hend), ?_⟩
      refine List.forall_mem_cons.mpr ⟨fun e => tTabIn (off := 810) (tgt := 843) F dL_law_33 e (by decide) (by decide) (by decide +kernel) (by decide) (law_c21 B0 hi ht hg hC hMs hS hl hend), ?_⟩
      refine List.forall_mem_cons.mpr ⟨fun e => tTabIn (off := 833) (tgt := 866) F dL_law_33 e (by decide) (by decide) (by decide +kernel) (by decide) (law_c22 B0 hi ht hg hC hMs hS hl hend), ?_⟩
      refine List.forall_mem_cons.mpr ⟨fun e => tTabIn (off := 866) (tgt := 899) F dL_law_33 e (by decide) (by decide) (by decide +kernel) (by decide) (law_c23 B0 hi ht hg hC hMs hS hl hend), ?_⟩
      refine List.forall_mem_cons.mpr ⟨fun e => tTabIn (off := 889) (tgt := 922) F dL_law_33 e (by decide) (by decide) (by decide +kernel) (by decide) (law_c24 B0 hi ht hg hC hMs hS hl hend), ?_⟩
      refine List.forall_mem_cons.mpr ⟨fun e => tTabIn (off := 932) (tgt := 965) F dL_law_33 e (by decide) (by decide) (by decide +kernel) (by decide) (law_c25 B0 hi ht hg hC hMs hS hl hend), ?_⟩
      refine List.forall_mem_cons.mpr ⟨fun e => tTabIn (off := 975) (tgt := 1008) F dL_law_33 e (by decide) (by decide) (by decide +kernel) (by decide) (law_c26 B0 hi ht hg hC hMs hS hl hend), ?_⟩
      refine List.forall_mem_cons.mpr ⟨fun e => tTabIn (off := 1018) (tgt := 1051) F dL_law_33 e (by decide) (by decide) (by decide +kernel) (by decide) (law_c27 B0 hi ht hg hC hMs hS hl hend), ?_⟩
      refine List.forall_mem_cons.mpr ⟨fun e => tTabIn (off := 1041) (tgt := 1074) F dL_law_33 e (by decide) (by decide) (by decide +kernel) (by decide) (law_c28 B0 hi ht hg hC hMs hS hl hend), ?_⟩
      refine List.forall_mem_cons.mpr ⟨fun e => tTabIn (off := 1064) (tgt := 1097) F dL_law_33 e (by decide) (by decide) (by decide +kernel) (by decide) (law_c29 B0 hi ht hg hC hMs hS hl hend), ?_⟩
      refine List.forall_mem_cons.mpr ⟨fun e => tTabIn (off := 1097) (tgt := 1130) F dL_law_33 e (by decide) (by decide) (by decide +kernel) (by decide) (law_c30 B0 hi ht hg hC hMs hS hl hend), ?_⟩
      refine List.forall_mem_cons.mpr ⟨fun e => tTabIn (off := 1120) (tgt := 1153) F dL_law_33 e (by decide) (by decide) (by decide +kernel) (by decide) (law_c31 B0 hi ht hg hC hMs hS hl hend), ?_⟩
      refine List.forall_mem_cons.mpr ⟨fun e => tTabIn (off := 1153) (tgt := 1186) F dL_law_33 e (by decide) (by decide) (by decide +kernel) (by decide) (law_c32 B0 hi ht hg hC hMs hS hl hend), ?_⟩
      refine List.forall_mem_cons.mpr ⟨fun e => tTabIn (off := 1176) (tgt := 1209) F dL_law_33 e (by decide) (by decide) (by decide +kernel) (by decide) (law_c33 B0 hi ht hg hC hMs hS hl hend), ?_⟩
      refine List.forall_mem_cons.mpr ⟨fun e => tTabIn (off := 1199) (tgt := 1232) F dL_law_33 e (by decide) (by decide) (by decide +kernel) (by decide) (law_c34 B0 hi ht hg hC hMs hS hl hend), ?_⟩
      refine List.forall_mem_cons.mpr ⟨fun e => tTabIn (off := 1222) (tgt := 1255) F dL_law_33 e (by decide) (by decide) (by decide +kernel) (by decide) (law_c35 B0 hi ht hg hC hMs hS hl hend), ?_⟩
      refine List.forall_mem_cons.mpr ⟨fun e => tTabIn (off := 1245) (tgt := 1278) F dL_law_33 e (by decide) (by decide) (by decide +kernel) (by decide) (law_c36 B0 hi ht hg hC hMs hS hl hend), ?_⟩
      refine List.forall_mem_cons.mpr ⟨fun e => tTabIn (off := 1278) (tgt := 1311) F dL_law_33 e (by decide) (by decide) (by decide +kernel) (by decide) (law_c37 B0 hi ht hg hC hMs hS hl hend), ?_⟩
      refine List.forall_mem_cons.mpr ⟨fun e => tTabIn (off := 1331) (tgt := 1364) F dL_law_33 e (by decide) (by decide) (by decide +kernel) (by decide) (law_c38 B0 hi ht hg hC hMs hS hl hend), ?_⟩
      refine List.forall_mem_cons.mpr ⟨fun e => tTabIn (off := 1374) (tgt := 1407) F dL_law_33 e (by decide) (by decide) (by decide +kernel) (by decide) (law_c39 B0 hi ht hg hC hMs hS hl hend), ?_⟩
      refine List.forall_mem_cons.mpr ⟨fun e => tTabIn (off := 1417) (tgt := 1450) F dL_law_33 e (by decide) (by decide) (by decide +kernel) (by decide) (law_c40 B0 hi ht hg hC hMs hS hl hend), ?_⟩
      refine List.forall_mem_cons.mpr ⟨fun e => tTabIn (off := 1450) (tgt := 1483) F dL_law_33 e (by decide) (by decide) (by decide +kernel) (by decide) (law_c41 B0 hi ht hg hC hMs hS hl hend), ?_⟩
      refine List.forall_mem_cons.mpr ⟨fun e => tTabIn (off := 1473) (tgt := 1506) F dL_law_33 e (by decide) (by decide) (by decide +kernel) (by decide) (law_c42 B0 hi ht hg hC hMs hS hl hend), ?_⟩
      exact fun _ h => absurd h List.not_mem_nil
    obtain ⟨j, hj⟩ : ∃ j : Nat, x.toInt = (j : Int) := ⟨x.toInt.toNat, by omega⟩
    exact key j (by have h43 : ∀ j, j < 43 → j ∈ ([0, 1, 2, 3, 4, 5, 6, 7, 8, 9, 10, 11, 12, 13, 14, 15, 16, 17, 18, 19, 20, 21, 22, 23, 24, 25, 26, 27, 28, 29, 30, 31, 32, 33, 34, 35, 36, 37, 38, 39, 40, 41, 42] : List Nat) := by decide
                    exact h43 j (by omega)) hj
set_option maxHeartbeats 8000000 in
set_option maxRecDepth 100000 in
theorem law_loop {pg_ : Program} {l : Launch} {ev_ : Env} {s : State} {mi_ : MethodId} {below_ : List Frame} {meth : Method} {cd_ : Code} {H : Heap} {locs : List Loc} {ls : Array Slot} {b L : Nat} {xs : Nat → Int32} {G : va_G} {k : Nat → ClassId} {tC tM aX aV : Nat → Nat} {h0 g0 : Nat} {t : Int} {T : RwF} {g : Gs} (B0 : LB pg_ s mi_ meth cd_ b L xs l G k tC tM aX aV h0 g0) (ht : (0 ≤ t ∧ t ≤ 400) ∧ ivP 400 (-128) 127 T) (hg : Gok g) (hC : Cs (eC l G k tC aX aV) t T g H) (hMs : Ms (eM l G k tM aX aV) t T g H) (hS : va_S (lawA s) s.heap H locs) (hl : lv_has ls 4 [(3, .int 0), (2, .ref g0), (1, .ref h0), (0, .ref b)]) : W pg_ l ev_ room_1 s mi_ #[Value.ref b] below_ meth cd_ H locs 294 18964 (lw_Z below_ #[Value.ref b] s) (F0 mi_ 18 ls []) := by
  obtain ⟨F, hK, hN, hOc, hOm, hX, hbl, hL, hTc, hTm, hdis, hh0, hg0⟩ := id B0
  obtain ⟨hx, hb, hr, hml, hown, hlk, hw, -⟩ := id F
  have hbA : ¬ lawA s b := fun q => absurd q (by unfold lawA; omega)
  have e6 : (6 : Int32).toInt = 6 := by decide
  have eL : (Int32.ofNat L).toInt = (L : Int) := nI_toInt (by omega)
  have eL6 : (Int32.ofNat L - 6).toInt = (L : Int) - 6 := by
    have h1 := i_sub (x := Int32.ofNat L) (y := 6) (by rw [e6, eL]; omega) (by rw [e6, eL]; omega)
    rw [e6, eL] at h1
    exact h1
  refine wloop (σ := Int32 × Int × RwF × Gs) (fun n9 x9 H locs ls => (4000 - x9.1.toInt).toNat < n9 ∧ (0 ≤ x9.1.toInt ∧ x9.1.toInt ≤ 3072) ∧ ((0 ≤ x9.2.1 ∧ x9.2.1 ≤ 400) ∧ ivP 400 (-128) 127 x9.2.2.1) ∧ Gok x9.2.2.2 ∧ Cs (eC l G k tC aX aV) x9.2.1 x9.2.2.1 x9.2.2.2 H ∧ Ms (eM l G k tM aX aV) x9.2.1 x9.2.2.1 x9.2.2.2 H ∧ va_S (lawA s) s.heap H locs ∧ lv_has ls 4 [(3, .int x9.1), (2, .ref g0), (1, .ref h0), (0, .ref b)]) ?_ (fun x9 H locs ls h => absurd h.1 (Nat.not_lt_zero _)) _ (0, t, T, g) ⟨Nat.lt_succ_self _, (by show 0 ≤ (0 : Int32).toInt ∧ (0 : Int32).toInt ≤ 3072; decide), ht, hg, hC, hMs, hS, hl⟩
  intro n ih ⟨i, t, T, g⟩ H locs ls ⟨hm, hi, ht, hg, hC, hMs, hS, hl⟩
  have hm : (4000 - i.toInt).toNat < n + 1 := hm
  have hi : 0 ≤ i.toInt ∧ i.toInt ≤ 3072 := hi
  have hl : lv_has ls 4 [(3, .int i), (2, .ref g0), (1, .ref h0), (0, .ref b)] := hl
  refine lv_iload_n hx hb dL_law_18 rfl (lv_at hl 0 rfl) ?_
  refine lv_aload_n hx hb dL_law_19 rfl (lv_at hl 3 rfl) ?_
  refine va_slen hx hb hX hbl hbA hS dL_law_20 ?_
  refine lv_bipush (v := 6) hx hb dL_law_21 (by decide) ?_
  refine lv_isub hx hb dL_law_23 ?_
  refine b_gt (tgt := 1535) F dL_law_24 (by decide) (fun _ => ?_) (fun c1 => ?_)
  · exact law_end (L := L) (xs := xs) (G := G) (k := k) (tC := tC) (tM := tM) (aX := aX) (aV := aV) (h0 := h0) (g0 := g0) F hS (Nat.le_of_ble_eq_true rfl) (Nat.le_of_ble_eq_true rfl)
  · rw [eL6] at c1
    refine lv_aload_n hx hb dL_law_27 rfl (lv_at hl 3 rfl) ?_
    refine lv_iload_n hx hb dL_law_28 rfl (lv_at hl 0 rfl) ?_
    refine va_sld hx hb hX hbl hbA hS (vinT (by omega)) dL_law_29 ?_
    refine lv_bipush (v := 63) hx hb dL_law_30 (by decide) ?_
    refine lv_iand hx hb dL_law_32 ?_
    refine topF (fun x => ?_)
    refine law_disp B0 ⟨hi.1, by omega⟩ ht hg hC hMs hS hl (fun t T g H locs ht hg hC hMs hS => ?_)
    obtain ⟨z, ez, hz⟩ := iincB (c := 6) (lo := 6) (hi := 3078) hi rfl
    refine lv_iinc (v := z) (lv' := [(3, .int z), (2, .ref g0), (1, .ref h0), (0, .ref b)]) hx hb dL_law_1529 hl (k := 0) rfl ez (by decide) rfl (fun ls hl => ?_)
    refine lv_goto (tgt := 18) hx hb dL_law_1532 (by decide) ?_
    exact ih (z, t, T, g) _ _ _ ⟨(show (4000 - z.toInt).toNat < n from by omega), (show 0 ≤ z.toInt ∧ z.toInt ≤ 3072 from by omega), ht, hg, hC, hMs, hS, hl⟩
