theorem mi_X6_init : MI yX6_init cX6_init 2 0 := ⟨wd_1_8, wd_1_7, wd_1_2, rfl, by decide, by decide, by decide +kernel⟩
theorem mi_X7_init : MI yX7_init cX7_init 1 0 := ⟨wd_6_3, wd_6_2, wd_1_5, rfl, by decide, by decide, by decide +kernel⟩
theorem vaP_l {G : va_G} {u v : va_W} {H : Heap} (h : va_P G vwCl (u ++ v) H) : va_P G vwCl u H := fun k q hk => h k q (by rw [List.getElem?_append_left (List.getElem?_eq_some_iff.mp hk).1]; exact hk)
theorem vaP_r {G : va_G} {u v : va_W} {H : Heap} (h : va_P G vwCl (u ++ v) H) : va_P G vwCl v H := fun k q hk => h (u.length + k) q (by rw [List.getElem?_append_right (by omega)]; simpa using hk)
theorem vaD_l {A : Nat → Prop} {u v : va_W} (h : va_D A (u ++ v)) : va_D A u :=
  ⟨fun i j p q hi hj e => h.1 i j p q (by rw [List.getElem?_append_left (List.getElem?_eq_some_iff.mp hi).1]; exact hi) (by rw [List.getElem?_append_left (List.getElem?_eq_some_iff.mp hj).1]; exact hj) e, fun k q hk => h.2 k q (by rw [List.getElem?_append_left (List.getElem?_eq_some_iff.mp hk).1]; exact hk)⟩
theorem vaD_r {A : Nat → Prop} {u v : va_W} (h : va_D A (u ++ v)) : va_D A v :=
  ⟨fun i j p q hi hj e => by
    have := h.1 (u.length + i) (u.length + j) p q (by rw [List.getElem?_append_right (by omega)]; simpa using hi) (by rw [List.getElem?_append_right (by omega)]; simpa using hj) e
    omega, fun k q hk => h.2 (u.length + k) q (by rw [List.getElem?_append_right (by omega)]; simpa using hk)⟩
theorem vaD_x {A : Nat → Prop} {u v : va_W} (h : va_D A (u ++ v)) {i j a : Nat} {e e2 : va_E} (hi : u[i]? = some (a, e)) (hj : v[j]? = some (a, e2)) : False := by
  have hil := (List.getElem?_eq_some_iff.mp hi).1
  have := h.1 i (u.length + j) (a, e) (a, e2) (by rw [List.getElem?_append_left hil]; exact hi) (by rw [List.getElem?_append_right (by omega)]; simpa using hj) rfl
  omega
theorem nd_of : ∀ {l : List Nat}, l.Nodup → va_nd l = true := by
  intro l h
  induction l with
  | nil => rfl
  | cons a l ih =>
    rw [List.nodup_cons] at h
    simp [va_nd, h.1, ih h.2]
theorem rng (w v : va_W) : (List.range w.length).map (fun i => (w ++ v)[i]?) = w.map some := by
  apply List.ext_getElem?
  intro i
  by_cases h : i < w.length
  · simp [h]
    rw [List.getElem?_append_left h, List.getElem?_eq_getElem h]
  · simp [h]
set_option maxHeartbeats 8000000 in
set_option maxRecDepth 100000 in
theorem law_b7 {pg_ : Program} {l : Launch} {ev_ : Env} {s : State} {mi_ : MethodId} {below_ : List Frame} {meth : Method} {cd_ : Code} {H : Heap} {locs : List Loc} {ls : Array Slot} {b L : Nat} {xs : Nat → Int32} {G : va_G} {k : Nat → ClassId} {h0 : Nat} {w : va_W} (hL : L ≤ 3072) (F : lF pg_ s mi_ meth cd_ b) (hK : va_K G vwCl (tyk k) s) (hN : nst s) (hts : ∀ w ∈ lw_tbl, w.before #[Value.ref b] s = true) (hgv : (Jvm.Cond.and given_1 narrow_1).before #[Value.ref b] s = true) (hX : va_X b L xs s s.heap) (hbl : b < s.heap.size) (hTy : Typed k (tgW w T_C) (tbC (dayD (.inl (0, 18))) (dayD (.inl (0, 18))) (riverD (.inl (0, 0)) (.inl (0, 0)) (.inl (0, 4)) 31 33 35 39 43 47) (riverD (.inl (0, 0)) (.inl (0, 0)) (.inl (0, 4)) 32 34 36 40 44 48) (rcD (.inl (0, 0)) (.inr [26]) (.inr [27]) (.inl (0, 0))) (rdD (.inl (0, 400)) (.inl (0, 400)) (.inl (0, 4000)) (.inl (0, 1)) (.inr [26, 27])) (xB 400 (fun _ => 0)) A14F A14F A4F A4F A14F A14F (riverD (.inl (0, 0)) (.inl (0, 0)) (.inl (0, 4)) 3 8 3 41 45 49) (riverD (.inl (0, 0)) (.inl (0, 0)) (.inl (0, 4)) 3 8 3 42 46 50) A12D A12D A12D A12D A12F A12F A12F A12F A48F A48F A48F A48F) w ∧ tgW w T_C h0 = 28 ∧ T_C.length = w.length) (hP : va_P G vwCl w H) (hD : va_D (lawA s) w) (hS : va_S (lawA s) s.heap H locs) (hl : lv_has ls 4 [(0, .ref b)]) : W pg_ l ev_ room_1 s mi_ #[Value.ref b] below_ meth cd_ H locs 268 8360 (lw_Z below_ #[Value.ref b] s) (F0 mi_ 7 ls [.ref h0]) := by
  obtain ⟨hx, hb, hr, hml, hown, hlk, hw, -⟩ := id F
  have hown : s.vm.findClass RL = some mi_.cls := hown
  have hA : ∀ q, s.heap.size ≤ q → lawA s q := fun q h => h
  refine lv_astore_n (lv' := [(1, .ref h0), (0, .ref b)]) hx hb dL_law_7 rfl hl (by decide) rfl (fun ls hl => ?_)
  refine va_new (ci := 7) (fs := [.null, .null, .null, .null, .int 0, .null, .null, .null, .null, .null, .null, .int 0, .null, .null, .null, .null, .int 0, .int 0, .null, .null, .null, .null, .null, .int 0, .int 0, .int 0, .int 0, .null, .null, .null, .int 0, .int 0, .int 0, .int 0, .int 0, .int 0, .null, .int 0, .int 0, .int 0, .null, .null]) (C := RX7) (T := TX7) (N := 42) hx hb hw inlX7 tyX7 tyX7_ok hown (hw _ wd_1_3) (hw _ wd_1_4) (hw _ wd_1_5) hK hP hD hS hA rfl df_X7 (Nat.le_of_ble_eq_true rfl) (Nat.le_of_ble_eq_true rfl) dL_law_8 (fun g0 H hP hD hS => ?_)
  refine lv_dup hx hb dL_law_11 rfl ?_
  refine kIv (b := g0) (As := []) (rest := [.ref g0]) (wr := w) F hK hN hA (c_X7_init l G k g0) mi_X7_init wd_6_1 ⟨Nat.le_of_ble_eq_true rfl, Nat.le_of_ble_eq_true rfl⟩ ⟨Nat.le_of_ble_eq_true rfl, Nat.le_of_ble_eq_true rfl⟩ hP hD hS [w.length] (List.range w.length) (by simp) (by simp) (rng w _) (by simp [va_nd]) (nd_of List.nodup_range) (by intro i hi; simp at hi ⊢; omega) rfl hl.1 (Nat.le_of_ble_eq_true rfl) dL_law_12 (fun w1 H locs hq hP hD hS => ?_)
  obtain ⟨nf, ⟨hnf, hn1⟩, hTM, hg0, hlM⟩ := toM (k := k) hq (vaD_r hD)
  refine lv_astore_n (lv' := [(2, .ref g0), (1, .ref h0), (0, .ref b)]) hx hb dL_law_15 rfl hl (by decide) rfl (fun ls hl => ?_)
  refine lv_iconst (v := 0) hx hb dL_law_16 (by decide) ?_
  refine lv_istore_n (lv' := [(3, .int 0), (2, .ref g0), (1, .ref h0), (0, .ref b)]) hx hb dL_law_17 rfl hl (by decide) rfl (fun ls hl => ?_)
  obtain ⟨aX, aV, hSO⟩ := law_SO hts hgv
  obtain ⟨hTC, hh0, hlC⟩ := hTy
  have tC : ∀ q, tgW w T_C q < 51 → ∃ (i : Nat) (e : va_E), w[i]? = some (q, e) := fun q h => by
    obtain ⟨i, e, h1, -⟩ := tgW_in hlC rfl (Nat.lt_of_lt_of_le h (by decide))
    exact ⟨i, e, h1⟩
  have tM : ∀ q, tgW w1 T_M q < 50 → ∃ (i : Nat) (e : va_E), w1[i]? = some (q, e) := fun q h => by
    obtain ⟨i, e, h1, -⟩ := tgW_in hlM rfl (Nat.lt_of_lt_of_le h (by decide))
    exact ⟨i, e, h1⟩
  have hTc : ∀ q, tgW w T_C q < 51 → s.heap.size ≤ q := fun q h => by
    obtain ⟨i, e, h1⟩ := tC q h
    exact (vaD_l hD).2 i _ h1
  have hTm : ∀ q, tgW w1 T_M q < 50 → s.heap.size ≤ q := fun q h => by
    obtain ⟨i, e, h1⟩ := tM q h
    exact (vaD_r hD).2 i _ h1
  have hdis : ∀ q, tgW w T_C q < 51 → ¬ tgW w1 T_M q < 50 := fun q h h2 => by
    obtain ⟨i, e, h1⟩ := tC q h
    obtain ⟨j, e2, h3⟩ := tM q h2
    exact vaD_x hD h1 h3
  have B0 : LB pg_ s mi_ meth cd_ b L xs l G k (tgW w T_C) (tgW w1 T_M) aX aV h0 g0 := ⟨F, hK, hN, hSO _ rfl rfl hTc, hSO _ rfl rfl hTm, hX, hbl, hL, hTc, hTm, hdis, hh0, hg0⟩
  have hC : TH (eC l G k (tgW w T_C) aX aV) (tbC (dayD (.inl (0, 18))) (dayD (.inl (0, 18))) (riverD (.inl (0, 0)) (.inl (0, 0)) (.inl (0, 4)) 31 33 35 39 43 47) (riverD (.inl (0, 0)) (.inl (0, 0)) (.inl (0, 4)) 32 34 36 40 44 48) (rcD (.inl (0, 0)) (.inr [26]) (.inr [27]) (.inl (0, 0))) (rdD (.inl (0, 400)) (.inl (0, 400)) (.inl (0, 4000)) (.inl (0, 1)) (.inr [26, 27])) (xB 400 (fun _ => 0)) A14F A14F A4F A4F A14F A14F (riverD (.inl (0, 0)) (.inl (0, 0)) (.inl (0, 4)) 3 8 3 41 45 49) (riverD (.inl (0, 0)) (.inl (0, 0)) (.inl (0, 4)) 3 8 3 42 46 50) A12D A12D A12D A12D A12F A12F A12F A12F A48F A48F A48F A48F) H := ⟨⟨rfl, uqC (vaD_l hD) hlC⟩, w, vaP_l hP, ⟨(vaD_l hD).1, fun _ _ _ => trivial⟩, hTC⟩
  obtain ⟨Da1, hDa1, hC⟩ := TH.pin0 (t := 39) (fun _ => 0) hC rfl (by decide) (fun j hj => by show _ ≤ (0 : Int32).toInt ∧ (0 : Int32).toInt ≤ _; decide)
  have hC : TH (eC l G k (tgW w T_C) aX aV) (tbC (dayD (.inl (0, 18))) (dayD (.inl (0, 18))) (riverD (.inl (0, 0)) (.inl (0, 0)) (.inl (0, 4)) 31 33 35 39 43 47) (riverD (.inl (0, 0)) (.inl (0, 0)) (.inl (0, 4)) 32 34 36 40 44 48) (rcD (.inl (0, 0)) (.inr [26]) (.inr [27]) (.inl (0, 0))) (rdD (.inl (0, 400)) (.inl (0, 400)) (.inl (0, 4000)) (.inl (0, 1)) (.inr [26, 27])) (xB 400 (fun _ => 0)) A14F A14F A4F A4F A14F A14F (riverD (.inl (0, 0)) (.inl (0, 0)) (.inl (0, 4)) 3 8 3 41 45 49) (riverD (.inl (0, 0)) (.inl (0, 0)) (.inl (0, 4)) 3 8 3 42 46 50) (xD 12 Da1) A12D A12D A12D A12F A12F A12F A12F A48F A48F A48F A48F) H := hC
  obtain ⟨Sa1, hSa1, hC⟩ := TH.pin0 (t := 43) (fun _ => 0) hC rfl (by decide) (fun j hj => by show _ ≤ (0 : Int32).toInt ∧ (0 : Int32).toInt ≤ _; decide)
  have hC : TH (eC l G k (tgW w T_C) aX aV) (tbC (dayD (.inl (0, 18))) (dayD (.inl (0, 18))) (riverD (.inl (0, 0)) (.inl (0, 0)) (.inl (0, 4)) 31 33 35 39 43 47) (riverD (.inl (0, 0)) (.inl (0, 0)) (.inl (0, 4)) 32 34 36 40 44 48) (rcD (.inl (0, 0)) (.inr [26]) (.inr [27]) (.inl (0, 0))) (rdD (.inl (0, 400)) (.inl (0, 400)) (.inl (0, 4000)) (.inl (0, 1)) (.inr [26, 27])) (xB 400 (fun _ => 0)) A14F A14F A4F A4F A14F A14F (riverD (.inl (0, 0)) (.inl (0, 0)) (.inl (0, 4)) 3 8 3 41 45 49) (riverD (.inl (0, 0)) (.inl (0, 0)) (.inl (0, 4)) 3 8 3 42 46 50) (xD 12 Da1) A12D A12D A12D (xD 12 Sa1) A12F A12F A12F A48F A48F A48F A48F) H := hC
  obtain ⟨Qa1, hQa1, hC⟩ := TH.pin0 (t := 47) (fun _ => 0) hC rfl (by decide) (fun j hj => by show _ ≤ (0 : Int32).toInt ∧ (0 : Int32).toInt ≤ _; decide)
  have hC : TH (eC l G k (tgW w T_C) aX aV) (tbC (dayD (.inl (0, 18))) (dayD (.inl (0, 18))) (riverD (.inl (0, 0)) (.inl (0, 0)) (.inl (0, 4)) 31 33 35 39 43 47) (riverD (.inl (0, 0)) (.inl (0, 0)) (.inl (0, 4)) 32 34 36 40 44 48) (rcD (.inl (0, 0)) (.inr [26]) (.inr [27]) (.inl (0, 0))) (rdD (.inl (0, 400)) (.inl (0, 400)) (.inl (0, 4000)) (.inl (0, 1)) (.inr [26, 27])) (xB 400 (fun _ => 0)) A14F A14F A4F A4F A14F A14F (riverD (.inl (0, 0)) (.inl (0, 0)) (.inl (0, 4)) 3 8 3 41 45 49) (riverD (.inl (0, 0)) (.inl (0, 0)) (.inl (0, 4)) 3 8 3 42 46 50) (xD 12 Da1) A12D A12D A12D (xD 12 Sa1) A12F A12F A12F (xD 48 Qa1) A48F A48F A48F) H := hC
  obtain ⟨Da2, hDa2, hC⟩ := TH.pin0 (t := 40) (fun _ => 0) hC rfl (by decide) (fun j hj => by show _ ≤ (0 : Int32).toInt ∧ (0 : Int32).toInt ≤ _; decide)
  have hC : TH (eC l G k (tgW w T_C) aX aV) (tbC (dayD (.inl (0, 18))) (dayD (.inl (0, 18))) (riverD (.inl (0, 0)) (.inl (0, 0)) (.inl (0, 4)) 31 33 35 39 43 47) (riverD (.inl (0, 0)) (.inl (0, 0)) (.inl (0, 4)) 32 34 36 40 44 48) (rcD (.inl (0, 0)) (.inr [26]) (.inr [27]) (.inl (0, 0))) (rdD (.inl (0, 400)) (.inl (0, 400)) (.inl (0, 4000)) (.inl (0, 1)) (.inr [26, 27])) (xB 400 (fun _ => 0)) A14F A14F A4F A4F A14F A14F (riverD (.inl (0, 0)) (.inl (0, 0)) (.inl (0, 4)) 3 8 3 41 45 49) (riverD (.inl (0, 0)) (.inl (0, 0)) (.inl (0, 4)) 3 8 3 42 46 50) (xD 12 Da1) (xD 12 Da2) A12D A12D (xD 12 Sa1) A12F A12F A12F (xD 48 Qa1) A48F A48F A48F) H := hC
  obtain ⟨Sa2, hSa2, hC⟩ := TH.pin0 (t := 44) (fun _ => 0) hC rfl (by decide) (fun j hj => by show _ ≤ (0 : Int32).toInt ∧ (0 : Int32).toInt ≤ _; decide)
  have hC : TH (eC l G k (tgW w T_C) aX aV) (tbC (dayD (.inl (0, 18))) (dayD (.inl (0, 18))) (riverD (.inl (0, 0)) (.inl (0, 0)) (.inl (0, 4)) 31 33 35 39 43 47) (riverD (.inl (0, 0)) (.inl (0, 0)) (.inl (0, 4)) 32 34 36 40 44 48) (rcD (.inl (0, 0)) (.inr [26]) (.inr [27]) (.inl (0, 0))) (rdD (.inl (0, 400)) (.inl (0, 400)) (.inl (0, 4000)) (.inl (0, 1)) (.inr [26, 27])) (xB 400 (fun _ => 0)) A14F A14F A4F A4F A14F A14F (riverD (.inl (0, 0)) (.inl (0, 0)) (.inl (0, 4)) 3 8 3 41 45 49) (riverD (.inl (0, 0)) (.inl (0, 0)) (.inl (0, 4)) 3 8 3 42 46 50) (xD 12 Da1) (xD 12 Da2) A12D A12D (xD 12 Sa1) (xD 12 Sa2) A12F A12F (xD 48 Qa1) A48F A48F A48F) H := hC
  obtain ⟨Qa2, hQa2, hC⟩ := TH.pin0 (t := 48) (fun _ => 0) hC rfl (by decide) (fun j hj => by show _ ≤ (0 : Int32).toInt ∧ (0 : Int32).toInt ≤ _; decide)
  have hC : TH (eC l G k (tgW w T_C) aX aV) (tbC (dayD (.inl (0, 18))) (dayD (.inl (0, 18))) (riverD (.inl (0, 0)) (.inl (0, 0)) (.inl (0, 4)) 31 33 35 39 43 47) (riverD (.inl (0, 0)) (.inl (0, 0)) (.inl (0, 4)) 32 34 36 40 44 48) (rcD (.inl (0, 0)) (.inr [26]) (.inr [27]) (.inl (0, 0))) (rdD (.inl (0, 400)) (.inl (0, 400)) (.inl (0, 4000)) (.inl (0, 1)) (.inr [26, 27])) (xB 400 (fun _ => 0)) A14F A14F A4F A4F A14F A14F (riverD (.inl (0, 0)) (.inl (0, 0)) (.inl (0, 4)) 3 8 3 41 45 49) (riverD (.inl (0, 0)) (.inl (0, 0)) (.inl (0, 4)) 3 8 3 42 46 50) (xD 12 Da1) (xD 12 Da2) A12D A12D (xD 12 Sa1) (xD 12 Sa2) A12F A12F (xD 48 Qa1) (xD 48 Qa2) A48F A48F) H := hC
  obtain ⟨Da3, hDa3, hC⟩ := TH.pin0 (t := 41) (fun _ => 0) hC rfl (by decide) (fun j hj => by show _ ≤ (0 : Int32).toInt ∧ (0 : Int32).toInt ≤ _; decide)
  have hC : TH (eC l G k (tgW w T_C) aX aV) (tbC (dayD (.inl (0, 18))) (dayD (.inl (0, 18))) (riverD (.inl (0, 0)) (.inl (0, 0)) (.inl (0, 4)) 31 33 35 39 43 47) (riverD (.inl (0, 0)) (.inl (0, 0)) (.inl (0, 4)) 32 34 36 40 44 48) (rcD (.inl (0, 0)) (.inr [26]) (.inr [27]) (.inl (0, 0))) (rdD (.inl (0, 400)) (.inl (0, 400)) (.inl (0, 4000)) (.inl (0, 1)) (.inr [26, 27])) (xB 400 (fun _ => 0)) A14F A14F A4F A4F A14F A14F (riverD (.inl (0, 0)) (.inl (0, 0)) (.inl (0, 4)) 3 8 3 41 45 49) (riverD (.inl (0, 0)) (.inl (0, 0)) (.inl (0, 4)) 3 8 3 42 46 50) (xD 12 Da1) (xD 12 Da2) (xD 12 Da3) A12D (xD 12 Sa1) (xD 12 Sa2) A12F A12F (xD 48 Qa1) (xD 48 Qa2) A48F A48F) H := hC
  obtain ⟨Sa3, hSa3, hC⟩ := TH.pin0 (t := 45) (fun _ => 0) hC rfl (by decide) (fun j hj => by show _ ≤ (0 : Int32).toInt ∧ (0 : Int32).toInt ≤ _; decide)
  have hC : TH (eC l G k (tgW w T_C) aX aV) (tbC (dayD (.inl (0, 18))) (dayD (.inl (0, 18))) (riverD (.inl (0, 0)) (.inl (0, 0)) (.inl (0, 4)) 31 33 35 39 43 47) (riverD (.inl (0, 0)) (.inl (0, 0)) (.inl (0, 4)) 32 34 36 40 44 48) (rcD (.inl (0, 0)) (.inr [26]) (.inr [27]) (.inl (0, 0))) (rdD (.inl (0, 400)) (.inl (0, 400)) (.inl (0, 4000)) (.inl (0, 1)) (.inr [26, 27])) (xB 400 (fun _ => 0)) A14F A14F A4F A4F A14F A14F (riverD (.inl (0, 0)) (.inl (0, 0)) (.inl (0, 4)) 3 8 3 41 45 49) (riverD (.inl (0, 0)) (.inl (0, 0)) (.inl (0, 4)) 3 8 3 42 46 50) (xD 12 Da1) (xD 12 Da2) (xD 12 Da3) A12D (xD 12 Sa1) (xD 12 Sa2) (xD 12 Sa3) A12F (xD 48 Qa1) (xD 48 Qa2) A48F A48F) H := hC
  obtain ⟨Qa3, hQa3, hC⟩ := TH.pin0 (t := 49) (fun _ => 0) hC rfl (by decide) (fun j hj => by show _ ≤ (0 : Int32).toInt ∧ (0 : Int32).toInt ≤ _; decide)
  have hC : TH (eC l G k (tgW w T_C) aX aV) (tbC (dayD (.inl (0, 18))) (dayD (.inl (0, 18))) (riverD (.inl (0, 0)) (.inl (0, 0)) (.inl (0, 4)) 31 33 35 39 43 47) (riverD (.inl (0, 0)) (.inl (0, 0)) (.inl (0, 4)) 32 34 36 40 44 48) (rcD (.inl (0, 0)) (.inr [26]) (.inr [27]) (.inl (0, 0))) (rdD (.inl (0, 400)) (.inl (0, 400)) (.inl (0, 4000)) (.inl (0, 1)) (.inr [26, 27])) (xB 400 (fun _ => 0)) A14F A14F A4F A4F A14F A14F (riverD (.inl (0, 0)) (.inl (0, 0)) (.inl (0, 4)) 3 8 3 41 45 49) (riverD (.inl (0, 0)) (.inl (0, 0)) (.inl (0, 4)) 3 8 3 42 46 50) (xD 12 Da1) (xD 12 Da2) (xD 12 Da3) A12D (xD 12 Sa1) (xD 12 Sa2) (xD 12 Sa3) A12F (xD 48 Qa1) (xD 48 Qa2) (xD 48 Qa3) A48F) H := hC
  obtain ⟨Da4, hDa4, hC⟩ := TH.pin0 (t := 42) (fun _ => 0) hC rfl (by decide) (fun j hj => by show _ ≤ (0 : Int32).toInt ∧ (0 : Int32).toInt ≤ _; decide)
  have hC : TH (eC l G k (tgW w T_C) aX aV) (tbC (dayD (.inl (0, 18))) (dayD (.inl (0, 18))) (riverD (.inl (0, 0)) (.inl (0, 0)) (.inl (0, 4)) 31 33 35 39 43 47) (riverD (.inl (0, 0)) (.inl (0, 0)) (.inl (0, 4)) 32 34 36 40 44 48) (rcD (.inl (0, 0)) (.inr [26]) (.inr [27]) (.inl (0, 0))) (rdD (.inl (0, 400)) (.inl (0, 400)) (.inl (0, 4000)) (.inl (0, 1)) (.inr [26, 27])) (xB 400 (fun _ => 0)) A14F A14F A4F A4F A14F A14F (riverD (.inl (0, 0)) (.inl (0, 0)) (.inl (0, 4)) 3 8 3 41 45 49) (riverD (.inl (0, 0)) (.inl (0, 0)) (.inl (0, 4)) 3 8 3 42 46 50) (xD 12 Da1) (xD 12 Da2) (xD 12 Da3) (xD 12 Da4) (xD 12 Sa1) (xD 12 Sa2) (xD 12 Sa3) A12F (xD 48 Qa1) (xD 48 Qa2) (xD 48 Qa3) A48F) H := hC
  obtain ⟨Sa4, hSa4, hC⟩ := TH.pin0 (t := 46) (fun _ => 0) hC rfl (by decide) (fun j hj => by show _ ≤ (0 : Int32).toInt ∧ (0 : Int32).toInt ≤ _; decide)
  have hC : TH (eC l G k (tgW w T_C) aX aV) (tbC (dayD (.inl (0, 18))) (dayD (.inl (0, 18))) (riverD (.inl (0, 0)) (.inl (0, 0)) (.inl (0, 4)) 31 33 35 39 43 47) (riverD (.inl (0, 0)) (.inl (0, 0)) (.inl (0, 4)) 32 34 36 40 44 48) (rcD (.inl (0, 0)) (.inr [26]) (.inr [27]) (.inl (0, 0))) (rdD (.inl (0, 400)) (.inl (0, 400)) (.inl (0, 4000)) (.inl (0, 1)) (.inr [26, 27])) (xB 400 (fun _ => 0)) A14F A14F A4F A4F A14F A14F (riverD (.inl (0, 0)) (.inl (0, 0)) (.inl (0, 4)) 3 8 3 41 45 49) (riverD (.inl (0, 0)) (.inl (0, 0)) (.inl (0, 4)) 3 8 3 42 46 50) (xD 12 Da1) (xD 12 Da2) (xD 12 Da3) (xD 12 Da4) (xD 12 Sa1) (xD 12 Sa2) (xD 12 Sa3) (xD 12 Sa4) (xD 48 Qa1) (xD 48 Qa2) (xD 48 Qa3) A48F) H := hC
  obtain ⟨Qa4, hQa4, hC⟩ := TH.pin0 (t := 50) (fun _ => 0) hC rfl (by decide) (fun j hj => by show _ ≤ (0 : Int32).toInt ∧ (0 : Int32).toInt ≤ _; decide)
  have hC : TH (eC l G k (tgW w T_C) aX aV) (tbC (dayD (.inl (0, 18))) (dayD (.inl (0, 18))) (riverD (.inl (0, 0)) (.inl (0, 0)) (.inl (0, 4)) 31 33 35 39 43 47) (riverD (.inl (0, 0)) (.inl (0, 0)) (.inl (0, 4)) 32 34 36 40 44 48) (rcD (.inl (0, 0)) (.inr [26]) (.inr [27]) (.inl (0, 0))) (rdD (.inl (0, 400)) (.inl (0, 400)) (.inl (0, 4000)) (.inl (0, 1)) (.inr [26, 27])) (xB 400 (fun _ => 0)) A14F A14F A4F A4F A14F A14F (riverD (.inl (0, 0)) (.inl (0, 0)) (.inl (0, 4)) 3 8 3 41 45 49) (riverD (.inl (0, 0)) (.inl (0, 0)) (.inl (0, 4)) 3 8 3 42 46 50) (xD 12 Da1) (xD 12 Da2) (xD 12 Da3) (xD 12 Da4) (xD 12 Sa1) (xD 12 Sa2) (xD 12 Sa3) (xD 12 Sa4) (xD 48 Qa1) (xD 48 Qa2) (xD 48 Qa3) (xD 48 Qa4)) H := hC
  have hC : Cs (eC l G k (tgW w T_C) aX aV) 0 (fun _ => 0) ([26], [27], 0, 0, 0, 0, 0, 0, 0, 0, 0, Da1, Sa1, Qa1, Da2, Sa2, Qa2, Da3, Sa3, Qa3, Da4, Sa4, Qa4) H := hC
  have hTie : ([26] = [26] → rowT 0 Da1 Sa1 Qa1 nf) ∧ ([26] = [27] → rowT 0 Da2 Sa2 Qa2 nf) ∧ gI (fun _ => 0) 0 = (0 : Int) % 2 ∧ gI (fun _ => 0) 1 = (0 : Int) / 2 ∧ ((0 : Int) % 2 = 1 → rowT 0 Da3 Sa3 Qa3 (fun _ => 0)) ∧ ((0 : Int) / 2 = 1 → rowT 0 Da4 Sa4 Qa4 (fun _ => 0)) := ⟨fun _ => rowT.zero hn1, fun h => absurd h (by decide), by decide, by decide, fun h => absurd h (by decide), fun h => absurd h (by decide)⟩
  have hM : Ms (eM l G k (tgW w1 T_M) aX aV) 0 (fun _ => 0) ([26], [27], 0, 0, 0, 0, 0, 0, 0, 0, 0, Da1, Sa1, Qa1, Da2, Sa2, Qa2, Da3, Sa3, Qa3, Da4, Sa4, Qa4) H := ⟨nf, fun _ => 0, fun _ => 0, fun _ => 0, fun _ => 0, fun _ => 0, nf, fun _ => 0, fun _ => 0, 0, by decide, hnf, okN0 10, okN0 2, zf.ok (k := 660) (fun _ _ => rfl) rfl, (fun j hj => by show _ ≤ (0 : Int32).toInt ∧ (0 : Int32).toInt ≤ _; decide), (fun _ _ => rfl), (fun r h => absurd h (by omega)), (fun _ _ => rfl), (fun _ _ => rfl), hTie, ⟨rfl, uqM (vaD_r hD) hlM⟩, w1, vaP_r hP, ⟨(vaD_r hD).1, fun _ _ _ => trivial⟩, hTM⟩
  have hG : Gok ([26], [27], 0, 0, 0, 0, 0, 0, 0, 0, 0, Da1, Sa1, Qa1, Da2, Sa2, Qa2, Da3, Sa3, Qa3, Da4, Sa4, Qa4) := ⟨Or.inl ⟨rfl, rfl⟩, (by decide : (0 : Int) ≤ 0 ∧ (0 : Int) ≤ 3), (by decide : (0 : Int) ≤ 0 ∧ (0 : Int) ≤ 12), (by decide : (0 : Int) ≤ 0 ∧ (0 : Int) ≤ 14), (by decide : (0 : Int) ≤ 0 ∧ (0 : Int) ≤ 12), (by decide : (0 : Int) ≤ 0 ∧ (0 : Int) ≤ 14), (by decide : (0 : Int) ≤ 0 ∧ (0 : Int) ≤ 12), (by decide : (0 : Int) ≤ 0 ∧ (0 : Int) ≤ 14), (by decide : (0 : Int) ≤ 0 ∧ (0 : Int) ≤ 12), (by decide : (0 : Int) ≤ 0 ∧ (0 : Int) ≤ 14), hDa1, hSa1, hQa1, hDa2, hSa2, hQa2, hDa3, hSa3, hQa3, hDa4, hSa4, hQa4⟩
  exact law_loop B0 ⟨by decide, fun j hj => by show _ ≤ (0 : Int32).toInt ∧ (0 : Int32).toInt ≤ _; decide⟩ hG hC hM hS hl
set_option maxHeartbeats 8000000 in
set_option maxRecDepth 100000 in
theorem whole_start {p : Program} {e : Env} {s : State} {m : MethodId} {below : List Frame} {meth : Method} {c : Code} (l : Launch) (hflags : l.flags = flags0) {b L : Nat} {xs : Nat → Int32} (hL : L ≤ 3072) (C0 : lw_At p s m meth c b L xs) : W p l e room_1 s m #[Value.ref b] below meth c s.heap [] 0 0 (lw_Z below #[Value.ref b] s) (entryFrame m ([Value.ref b] : List Value).toArray 4) := by
  obtain ⟨hx, hb, hr, hml, hown, hts, hX, hbl, hlk, hgv⟩ := id C0
  have hw : ∀ w ∈ wsL_law, w.before #[Value.ref b] s = true := fun w h => hts w (wsL_law_in w h)
  have F : lF p s m meth c b := ⟨hx, hb, hr, hml, hown, hlk, hw, rfl⟩
  have hown : s.vm.findClass RL = some m.cls := hown
  have hN : nst s := law_nst hts
  obtain ⟨G, k, hK⟩ := law_env hw hN
  have hA : ∀ q, s.heap.size ≤ q → lawA s q := fun q h => h
  have hS : va_S (lawA s) s.heap s.heap [] := va_S.rf
  have hP : va_P G vwCl [] s.heap := fun k q h => by simp at h
  have hD : va_D (lawA s) [] := ⟨fun i j p q h => by simp at h, fun k q h => by simp at h⟩
  have hl := lv_entry ([.ref b]) (n := 4) (Nat.le_of_ble_eq_true rfl)
  rw [lg_entry_eq]
  generalize (lg_sl ([.ref b]) ++ List.replicate (4 - (lg_sl ([.ref b])).length) Slot.unset).toArray = ls at hl ⊢
  have hl : lv_has ls 4 [(0, .ref b)] := hl
  refine va_new (ci := 6) (fs := [.null, .int 0, .null, .null, .null, .null, .int 0, .int 0, .null, .null, .int 0, .null, .null, .null, .null, .null]) (C := RX6) (T := TX6) (N := 16) hx hb hw inlX6 tyX6 tyX6_ok hown (hw _ wd_1_0) (hw _ wd_1_1) (hw _ wd_1_2) hK hP hD hS hA rfl df_X6 (Nat.le_of_ble_eq_true rfl) (Nat.le_of_ble_eq_true rfl) dL_law_0 (fun q_1 H hP hD hS => ?_)
  have hP : va_P G vwCl [(q_1, .inr (6, [.null, .int 0, .null, .null, .null, .null, .int 0, .int 0, .null, .null, .int 0, .null, .null, .null, .null, .null]))] H := hP
  have hD : va_D (lawA s) [(q_1, .inr (6, [.null, .int 0, .null, .null, .null, .null, .int 0, .int 0, .null, .null, .int 0, .null, .null, .null, .null, .null]))] := hD
  refine lv_dup hx hb dL_law_3 rfl ?_
  refine kIv (b := q_1) (As := []) (rest := [.ref q_1]) (wr := []) F hK hN hA (c_X6_init l G k q_1) mi_X6_init wd_1_6 ⟨Nat.le_of_ble_eq_true rfl, Nat.le_of_ble_eq_true rfl⟩ ⟨Nat.le_of_ble_eq_true rfl, Nat.le_of_ble_eq_true rfl⟩ hP hD hS [0] [] rfl rfl rfl (by decide) (by decide) (by decide) rfl hl.1 (Nat.le_of_ble_eq_true rfl) dL_law_4 (fun w H locs hq hP hD hS => ?_)
  refine W.widen (k := 268) (n := 8360) (Nat.le_of_ble_eq_true rfl) (Nat.le_of_ble_eq_true rfl) ?_
  exact law_b7 hL F hK hN hts hgv hX hbl (toC hq hD) hP hD hS hl
