set_option maxRecDepth 20000 in
theorem law_nst {s : State} {b : Nat} (hts : ∀ w ∈ lw_tbl, w.before #[Value.ref b] s = true) : nst s := ⟨⟨va_Nw.of rfl (hts (.methodLinkNest RX6 15 yX2_init RX6) (List.mem_of_getElem? (i := 147) (by decide +kernel))), va_Nw.of rfl (hts (.methodLinkNest RX6 25 yX5_init RX6) (List.mem_of_getElem? (i := 293) (by decide +kernel))), va_Nw.of rfl (hts (.methodLinkNest RX1 11 yX5_init RX6) (List.mem_of_getElem? (i := 445) (by decide +kernel))), va_Nw.of rfl (hts (.methodLinkNest RX5 59 yX6_copyRow RX6) (List.mem_of_getElem? (i := 729) (by decide +kernel))), va_Nw.of rfl (hts (.methodLinkNest RX0 215 yX6_copyRow RX6) (List.mem_of_getElem? (i := 841) (by decide +kernel))), va_Nw.of rfl (hts (.methodLinkNest RX2 73 yX6_copyRow RX6) (List.mem_of_getElem? (i := 952) (by decide +kernel)))⟩, va_AO.of (hts (.arrayOver (.object RX2)) (List.mem_of_getElem? (i := 372) (by decide +kernel))), va_AO.of (hts (.arrayOver (.object RX5)) (List.mem_of_getElem? (i := 371) (by decide +kernel)))⟩
theorem law_arr {s : State} {b : Nat} {ty : FieldType} (h : (Cond.arrayClass ty).before #[Value.ref b] s = true) : ∃ c : ClassId, ArrOfT s c ty ∧ s.vm.findClass ("[" ++ ty.toString) = some c := by
  obtain ⟨c, kA, comp, h1, h2, h3⟩ := Cond.arrayClass_spec h
  exact ⟨c, fun n z => ⟨fun k h => (by cases h), kA, h2, comp, h3⟩, h1⟩
theorem law_arq {s : State} {C : String} (h : va_AO C s) : ∃ c : ClassId, ArrOfT s c (.object C) ∧ va_RA s c (.object C) := by
  obtain ⟨comp, c, kA, h1, h2, h3, h4, h5⟩ := Cond.arrayOver_spec h
  exact ⟨c, fun n z => ⟨fun k h => (by cases h), kA, h3, comp, h4⟩, kA, comp, h3, h4, h1, h5⟩
set_option maxHeartbeats 4000000 in
set_option maxRecDepth 100000 in
theorem law_env {s : State} {b : Nat} (hw : ∀ w ∈ wsL_law, w.before #[Value.ref b] s = true) (hN : nst s) : ∃ (G : va_G) (k : Nat → ClassId), va_K G vwCl (tyk k) s := by
  obtain ⟨c0_, i0_, hk0⟩ := u_known (C := RX0) (T := TX0) (N := 15) (n := 15) hw inlX0 (hw (.instantiable RX0 15) wd_2_5)
  obtain ⟨c1_, i1_, hk1⟩ := u_known (C := RX1) (T := TX1) (N := 11) (n := 11) hw inlX1 (hw (.instantiable RX1 11) wd_2_9)
  obtain ⟨c2_, i2_, hk2⟩ := u_known (C := RX2) (T := TX2) (N := 20) (n := 20) hw inlX2 (hw (.instantiable RX2 20) wd_1_15)
  obtain ⟨c3_, i3_, hk3⟩ := u_known (C := RX3) (T := TX3) (N := 6) (n := 6) hw inlX3 (hw (.instantiable RX3 6) wd_2_13)
  obtain ⟨c4_, i4_, hk4⟩ := u_known (C := RX4) (T := TX4) (N := 5) (n := 5) hw inlX4 (hw (.instantiable RX4 5) wd_2_17)
  obtain ⟨c5_, i5_, hk5⟩ := u_known (C := RX5) (T := TX5) (N := 13) (n := 13) hw inlX5 (hw (.instantiable RX5 13) wd_1_20)
  obtain ⟨c6_, i6_, hk6⟩ := u_known (C := RX6) (T := TX6) (N := 16) (n := 16) hw inlX6 (hw (.instantiable RX6 16) wd_1_1)
  obtain ⟨c7_, i7_, hk7⟩ := u_known (C := RX7) (T := TX7) (N := 42) (n := 42) hw inlX7 (hw (.instantiable RX7 42) wd_1_4)
  obtain ⟨y0, ya0, yb0⟩ := law_arr (hw (.arrayClass .int) wd_2_2)
  obtain ⟨y1, ya1, yb1⟩ := law_arr (hw (.arrayClass .byte) wd_1_12)
  obtain ⟨y2, ya2, yb2⟩ := law_arr (hw (.arrayClass .long) wd_4_6)
  obtain ⟨y3, ya3, yb3⟩ := law_arr (hw (.arrayClass .boolean) wd_6_11)
  obtain ⟨y4, ya4, yb4⟩ := law_arq hN.2.1
  obtain ⟨y5, ya5, yb5⟩ := law_arq hN.2.2
  refine ⟨(fun j => [c0_, c1_, c2_, c3_, c4_, c5_, c6_, c7_].getD j c0_, fun j => [i0_, i1_, i2_, i3_, i4_, i5_, i6_, i7_].getD j i0_), fun j => [y0, y1, y2, y3, y4, y5].getD j y0, ?_, ?_⟩
  · intro j q hq
    match j, hq with
    | 0, hq => cases hq; exact hk0
    | 1, hq => cases hq; exact hk1
    | 2, hq => cases hq; exact hk2
    | 3, hq => cases hq; exact hk3
    | 4, hq => cases hq; exact hk4
    | 5, hq => cases hq; exact hk5
    | 6, hq => cases hq; exact hk6
    | 7, hq => cases hq; exact hk7
    | j + 8, hq => simp [vwCl] at hq
  · intro j q hq
    match j, hq with
    | 0, hq => cases hq; exact ⟨ya0, yb0⟩
    | 1, hq => cases hq; exact ⟨ya1, yb1⟩
    | 2, hq => cases hq; exact ⟨ya2, yb2⟩
    | 3, hq => cases hq; exact ⟨ya3, yb3⟩
    | 4, hq => cases hq; exact ⟨ya4, yb4⟩
    | 5, hq => cases hq; exact ⟨ya5, yb5⟩
    | j + 6, hq => simp [tyk] at hq
