theorem dJ0_coder_7d493_0 : decode cJ0_coder_7d493 0 = .ok (.getstatic 38, 3) := by decide +kernel
theorem dJ0_coder_7d493_3 : decode cJ0_coder_7d493 3 = .ok (.ifCond .eq 10, 3) := by decide +kernel
theorem dJ0_coder_7d493_6 : decode cJ0_coder_7d493 6 = .ok (.aload_n 0, 1) := by decide +kernel
theorem dJ0_coder_7d493_7 : decode cJ0_coder_7d493 7 = .ok (.getfield 15, 3) := by decide +kernel
theorem dJ0_coder_7d493_10 : decode cJ0_coder_7d493 10 = .ok (.goto 4, 3) := by decide +kernel
theorem dJ0_coder_7d493_13 : decode cJ0_coder_7d493 13 = .ok (.iconst 1, 1) := by decide +kernel
theorem dJ0_coder_7d493_14 : decode cJ0_coder_7d493 14 = .ok (.ireturn, 1) := by decide +kernel
theorem dJ0_isLatin1_aae02_0 : decode cJ0_isLatin1_aae02 0 = .ok (.getstatic 38, 3) := by decide +kernel
theorem dJ0_isLatin1_aae02_3 : decode cJ0_isLatin1_aae02 3 = .ok (.ifCond .eq 14, 3) := by decide +kernel
theorem dJ0_isLatin1_aae02_6 : decode cJ0_isLatin1_aae02 6 = .ok (.aload_n 0, 1) := by decide +kernel
theorem dJ0_isLatin1_aae02_7 : decode cJ0_isLatin1_aae02 7 = .ok (.getfield 15, 3) := by decide +kernel
theorem dJ0_isLatin1_aae02_10 : decode cJ0_isLatin1_aae02 10 = .ok (.ifCond .ne 7, 3) := by decide +kernel
theorem dJ0_isLatin1_aae02_13 : decode cJ0_isLatin1_aae02 13 = .ok (.iconst 1, 1) := by decide +kernel
theorem dJ0_isLatin1_aae02_14 : decode cJ0_isLatin1_aae02 14 = .ok (.goto 4, 3) := by decide +kernel
theorem dJ0_isLatin1_aae02_17 : decode cJ0_isLatin1_aae02 17 = .ok (.iconst 0, 1) := by decide +kernel
theorem dJ0_isLatin1_aae02_18 : decode cJ0_isLatin1_aae02 18 = .ok (.ireturn, 1) := by decide +kernel
theorem dJ3_checkIndex_8e157_0 : decode cJ3_checkIndex_8e157 0 = .ok (.iload_n 0, 1) := by decide +kernel
theorem dJ3_checkIndex_8e157_1 : decode cJ3_checkIndex_8e157 1 = .ok (.ifCond .lt 8, 3) := by decide +kernel
theorem dJ3_checkIndex_8e157_4 : decode cJ3_checkIndex_8e157 4 = .ok (.iload_n 0, 1) := by decide +kernel
theorem dJ3_checkIndex_8e157_5 : decode cJ3_checkIndex_8e157 5 = .ok (.iload_n 1, 1) := by decide +kernel
theorem dJ3_checkIndex_8e157_6 : decode cJ3_checkIndex_8e157 6 = .ok (.if_icmp .lt 10, 3) := by decide +kernel
theorem dJ3_checkIndex_8e157_9 : decode cJ3_checkIndex_8e157 9 = .ok (.aload_n 2, 1) := by decide +kernel
theorem dJ3_checkIndex_8e157_10 : decode cJ3_checkIndex_8e157 10 = .ok (.iload_n 0, 1) := by decide +kernel
theorem dJ3_checkIndex_8e157_11 : decode cJ3_checkIndex_8e157 11 = .ok (.iload_n 1, 1) := by decide +kernel
theorem dJ3_checkIndex_8e157_12 : decode cJ3_checkIndex_8e157 12 = .ok (.invokestatic 95, 3) := by decide +kernel
theorem dJ3_checkIndex_8e157_15 : decode cJ3_checkIndex_8e157 15 = .ok (.athrow, 1) := by decide +kernel
theorem dJ3_checkIndex_8e157_16 : decode cJ3_checkIndex_8e157 16 = .ok (.iload_n 0, 1) := by decide +kernel
theorem dJ3_checkIndex_8e157_17 : decode cJ3_checkIndex_8e157 17 = .ok (.ireturn, 1) := by decide +kernel
theorem dJ0_checkIndex_df160_0 : decode cJ0_checkIndex_df160 0 = .ok (.iload_n 0, 1) := by decide +kernel
theorem dJ0_checkIndex_df160_1 : decode cJ0_checkIndex_df160 1 = .ok (.iload_n 1, 1) := by decide +kernel
theorem dJ0_checkIndex_df160_2 : decode cJ0_checkIndex_df160 2 = .ok (.getstatic 1053, 3) := by decide +kernel
theorem dJ0_checkIndex_df160_5 : decode cJ0_checkIndex_df160 5 = .ok (.invokestatic 1059, 3) := by decide +kernel
theorem dJ0_checkIndex_df160_8 : decode cJ0_checkIndex_df160 8 = .ok (.pop, 1) := by decide +kernel
theorem dJ0_checkIndex_df160_9 : decode cJ0_checkIndex_df160 9 = .ok (.return_, 1) := by decide +kernel
theorem dJ1_charAt_3b067_0 : decode cJ1_charAt_3b067 0 = .ok (.iload_n 1, 1) := by decide +kernel
theorem dJ1_charAt_3b067_1 : decode cJ1_charAt_3b067 1 = .ok (.aload_n 0, 1) := by decide +kernel
theorem dJ1_charAt_3b067_2 : decode cJ1_charAt_3b067 2 = .ok (.arraylength, 1) := by decide +kernel
theorem dJ1_charAt_3b067_3 : decode cJ1_charAt_3b067 3 = .ok (.invokestatic 9, 3) := by decide +kernel
theorem dJ1_charAt_3b067_6 : decode cJ1_charAt_3b067 6 = .ok (.aload_n 0, 1) := by decide +kernel
theorem dJ1_charAt_3b067_7 : decode cJ1_charAt_3b067 7 = .ok (.iload_n 1, 1) := by decide +kernel
theorem dJ1_charAt_3b067_8 : decode cJ1_charAt_3b067 8 = .ok (.baload, 1) := by decide +kernel
theorem dJ1_charAt_3b067_9 : decode cJ1_charAt_3b067 9 = .ok (.sipush 255, 3) := by decide +kernel
theorem dJ1_charAt_3b067_12 : decode cJ1_charAt_3b067 12 = .ok (.iand, 1) := by decide +kernel
theorem dJ1_charAt_3b067_13 : decode cJ1_charAt_3b067 13 = .ok (.i2c, 1) := by decide +kernel
theorem dJ1_charAt_3b067_14 : decode cJ1_charAt_3b067 14 = .ok (.ireturn, 1) := by decide +kernel
theorem dJ0_length_8abf5_0 : decode cJ0_length_8abf5 0 = .ok (.aload_n 0, 1) := by decide +kernel
theorem dJ0_length_8abf5_1 : decode cJ0_length_8abf5 1 = .ok (.getfield 9, 3) := by decide +kernel
theorem dJ0_length_8abf5_4 : decode cJ0_length_8abf5 4 = .ok (.arraylength, 1) := by decide +kernel
theorem dJ0_length_8abf5_5 : decode cJ0_length_8abf5 5 = .ok (.aload_n 0, 1) := by decide +kernel
theorem dJ0_length_8abf5_6 : decode cJ0_length_8abf5 6 = .ok (.invokevirtual 335, 3) := by decide +kernel
theorem dJ0_length_8abf5_9 : decode cJ0_length_8abf5 9 = .ok (.ishr, 1) := by decide +kernel
theorem dJ0_length_8abf5_10 : decode cJ0_length_8abf5 10 = .ok (.ireturn, 1) := by decide +kernel
theorem dJ0_charAt_5068e_0 : decode cJ0_charAt_5068e 0 = .ok (.aload_n 0, 1) := by decide +kernel
theorem dJ0_charAt_5068e_1 : decode cJ0_charAt_5068e 1 = .ok (.invokevirtual 492, 3) := by decide +kernel
theorem dJ0_charAt_5068e_4 : decode cJ0_charAt_5068e 4 = .ok (.ifCond .eq 12, 3) := by decide +kernel
theorem dJ0_charAt_5068e_7 : decode cJ0_charAt_5068e 7 = .ok (.aload_n 0, 1) := by decide +kernel
theorem dJ0_charAt_5068e_8 : decode cJ0_charAt_5068e 8 = .ok (.getfield 9, 3) := by decide +kernel
theorem dJ0_charAt_5068e_11 : decode cJ0_charAt_5068e 11 = .ok (.iload_n 1, 1) := by decide +kernel
theorem dJ0_charAt_5068e_12 : decode cJ0_charAt_5068e 12 = .ok (.invokestatic 495, 3) := by decide +kernel
theorem dJ0_charAt_5068e_15 : decode cJ0_charAt_5068e 15 = .ok (.ireturn, 1) := by decide +kernel
theorem dJ0_charAt_5068e_16 : decode cJ0_charAt_5068e 16 = .ok (.aload_n 0, 1) := by decide +kernel
theorem dJ0_charAt_5068e_17 : decode cJ0_charAt_5068e 17 = .ok (.getfield 9, 3) := by decide +kernel
theorem dJ0_charAt_5068e_20 : decode cJ0_charAt_5068e 20 = .ok (.iload_n 1, 1) := by decide +kernel
theorem dJ0_charAt_5068e_21 : decode cJ0_charAt_5068e 21 = .ok (.invokestatic 498, 3) := by decide +kernel
theorem dJ0_charAt_5068e_24 : decode cJ0_charAt_5068e 24 = .ok (.ireturn, 1) := by decide +kernel
theorem ms_J0_checkIndex_df160 : MS yJ0_checkIndex_df160 cJ0_checkIndex_df160 2 none 2 := ⟨wd_11_4, wd_11_3, wd_10_5, by decide, by decide, by decide +kernel⟩
theorem ms_J1_charAt_3b067 : MS yJ1_charAt_3b067 cJ1_charAt_3b067 2 (some .char) 2 := ⟨wd_11_1, wd_10_23, wd_11_0, by decide, by decide, by decide +kernel⟩
theorem ms_J3_checkIndex_8e157 : MS yJ3_checkIndex_8e157 cJ3_checkIndex_8e157 3 (some .int) 3 := ⟨wd_11_9, wd_11_7, wd_11_8, by decide, by decide, by decide +kernel⟩
theorem mv_J0_charAt_5068e : MV yJ0_charAt_5068e cJ0_charAt_5068e 2 (some .char) 1 := ⟨wd_10_17, wd_10_15, wd_10_16, wd_10_5, by decide, by decide, by decide +kernel⟩
theorem mv_J0_coder_7d493 : MV yJ0_coder_7d493 cJ0_coder_7d493 1 (some .byte) 0 := ⟨wd_10_11, wd_10_9, wd_10_10, wd_10_5, by decide, by decide, by decide +kernel⟩
theorem mv_J0_isLatin1_aae02 : MV yJ0_isLatin1_aae02 cJ0_isLatin1_aae02 1 (some .boolean) 0 := ⟨wd_10_21, wd_10_19, wd_10_20, wd_10_5, by decide, by decide, by decide +kernel⟩
theorem mv_J0_length_8abf5 : MV yJ0_length_8abf5 cJ0_length_8abf5 1 (some .int) 0 := ⟨wd_10_6, wd_10_3, wd_10_4, wd_10_5, by decide, by decide, by decide +kernel⟩
/-! texts: their length, their signs -/
def strOf (t n : Nat) : Prop := ∃ x, sitesTx[t]? = some x ∧ x.2.2.2 = n
theorem strAt (t : Nat) {x : String × Nat × String × Nat} (h : sitesTx[t]? = some x) : strOf t x.2.2.2 := ⟨x, h, rfl⟩
theorem strLe {t n : Nat} (h : strOf t n) : 3 ≤ n ∧ n ≤ 6 := by
  obtain ⟨x, hx, rfl⟩ := h
  have key : ∀ x ∈ sitesTx, 3 ≤ x.2.2.2 ∧ x.2.2.2 ≤ 6 := by decide +kernel
  exact key x (List.mem_of_getElem? hx)
theorem narC {v : Int32} (h : 0 ≤ v.toInt ∧ v.toInt ≤ 65535) : narrow .char (.int v) = .int v := by
  have e : narrow .char (.int v) = .int ((v.toUInt32 % 65536).toInt32) := rfl
  rw [e]
  congr 1
  apply Int32.toBitVec_inj.mp
  apply BitVec.eq_of_toNat_eq
  have h3 : v.toInt = v.toBitVec.toInt := rfl
  have h5 := BitVec.toInt_eq_toNat_cond v.toBitVec
  rw [← h3] at h5
  have h6 := v.toBitVec.isLt
  have h2 : v.toInt = (v.toBitVec.toNat : Int) := by
    by_cases q : 2 * v.toBitVec.toNat < 2 ^ 32
    · rw [if_pos q] at h5; exact h5
    · rw [if_neg q] at h5; omega
  have h4 : (v.toUInt32 % 65536).toInt32.toBitVec.toNat = v.toBitVec.toNat % 65536 := by
    show (v.toUInt32 % 65536).toBitVec.toNat = _
    rw [UInt32.toBitVec_mod, BitVec.toNat_umod]
    rfl
  rw [h4]
  omega
theorem charB (x : Int32) : 0 ≤ ((x.toUInt32 % 65536).toInt32).toInt ∧ ((x.toUInt32 % 65536).toInt32).toInt ≤ 65535 := by
  have h4 : (x.toUInt32 % 65536).toInt32.toBitVec.toNat = x.toBitVec.toNat % 65536 := by
    show (x.toUInt32 % 65536).toBitVec.toNat = _
    rw [UInt32.toBitVec_mod, BitVec.toNat_umod]
    rfl
  have h5 : ((x.toUInt32 % 65536).toInt32).toInt = (((x.toUInt32 % 65536).toInt32).toBitVec.toNat : Int) := BitVec.toInt_eq_toNat_of_lt (by omega)
  omega
theorem chr128 : ∀ k : Fin 128, ((((Int32.ofNat k.val &&& 255).toUInt32 % 65536).toInt32).toInt = (k.val : Int)) := by decide +kernel
theorem chrE {x : Int32} {w : Int} (h : x.toInt = w) (hw : 0 ≤ w ∧ w ≤ 127) : ((((x &&& 255).toUInt32 % 65536).toInt32).toInt = w) := by
  have e : x = Int32.ofNat w.toNat := Int32.toInt_inj.mp (by rw [h, Int32.toInt_ofNat_of_lt (by omega)]; omega)
  rw [e]
  have := chr128 ⟨w.toNat, by omega⟩
  simp only at this
  rw [this]
  omega
theorem txLe {t j : Nat} {x : String × Nat × String × Nat} (hx : sitesTx[t]? = some x) (hj : j < x.2.2.2) : 0 ≤ (txW.getD t []).getD j 0 ∧ (txW.getD t []).getD j 0 ≤ 127 := by
  have key : ∀ w ∈ txW, ∀ c ∈ w, 0 ≤ c ∧ c ≤ 127 := by decide +kernel
  have k2 : ∀ (w : List Int), (∀ c ∈ w, 0 ≤ c ∧ c ≤ 127) → 0 ≤ w.getD j 0 ∧ w.getD j 0 ≤ 127 := fun w hw => by
    rw [List.getD_eq_getElem?_getD]
    cases h : w[j]? with
    | none => simp
    | some c => exact hw c (List.mem_of_getElem? h)
  refine k2 _ ?_
  rw [List.getD_eq_getElem?_getD]
  cases h : txW[t]? with
  | none => simp
  | some w => exact key w (List.mem_of_getElem? h)
theorem txN {t n : Nat} (h : strOf t n) : (txW.getD t []).length = n := by
  obtain ⟨x, hx, rfl⟩ := h
  have key : ∀ i : Fin sitesTx.length, (txW.getD i.val []).length = sitesTx[i.val].2.2.2 := by decide +kernel
  obtain ⟨hl, e⟩ := List.getElem?_eq_some_iff.mp hx
  rw [key ⟨t, hl⟩, e]
theorem sRecv {E : Ev} {s : State} {H : Heap} {locs : List Loc} {t : Nat} {x : String × Nat × String × Nat} (hO : SO E s.heap.size s) (hx : sitesTx[t]? = some x) (hS : va_S (eA E s.heap.size) s.heap H locs) : ∃ cell : Cell, H[eX E t]? = some cell ∧ cell.vm.isStatics = false ∧ s.vm.findClass "java/lang/String" = some cell.cls := by
  obtain ⟨-, f, h1, -⟩ := hO.1 t x hx
  obtain ⟨cell, q1, q2, q3, -⟩ := h1.kept hS.2.1
  exact ⟨cell, q1, q2, q3⟩
theorem sRecvS {E : Ev} {s : State} {H : Heap} {locs : List Loc} {t n : Nat} (hO : SO E s.heap.size s) (ht : strOf t n) (hS : va_S (eA E s.heap.size) s.heap H locs) : ∃ cell : Cell, H[eX E t]? = some cell ∧ cell.vm.isStatics = false ∧ s.vm.findClass "java/lang/String" = some cell.cls := by
  obtain ⟨x, hx, -⟩ := ht
  exact sRecv hO hx hS
set_option maxHeartbeats 4000000 in
set_option maxRecDepth 100000 in
theorem c_coder (E : Ev) (pre : Heap → Prop) (t n : Nat) (ht : strOf t n) : TcI E yJ0_coder_7d493 cJ0_coder_7d493 1 .byte ({ frames := 1, cells := 0, slots := 0, locals := 40 }) [.ref (eX E t)] pre (fun v H => v.toInt = 0 ∧ pre H) := by
  refine teI (by decide) (Nat.le_of_ble_eq_true rfl) ?_
  intro p_ ev_ s mi_ below_ meth cd_ ls F hK hN hO hH hS hl
  have hl : lv_has ls 1 [(0, .ref (eX E t))] := hl
  obtain ⟨x, hx, -⟩ := ht
  obtain ⟨-, f, h1, h2, h3, h4, -⟩ := hO.1 t x hx
  refine va_gets F.1 F.2.1 hO.2.1 hS F.2.2.2.2.1 (F.2.2.2.2.2.2.1 _ wd_10_12) (fun _ h9 => h9) dJ0_coder_7d493_0 ?_
  refine lv_if_eq (tgt := 13) F.1 F.2.1 dJ0_coder_7d493_3 (by decide) (fun c_ => absurd c_ (by decide)) (fun _ => ?_)
  refine lv_aload_n F.1 F.2.1 dJ0_coder_7d493_6 rfl (lv_at hl 0 rfl) ?_
  refine vk_getf F.1 F.2.1 h2 hS F.2.2.2.2.1 (F.2.2.2.2.2.2.1 _ wd_10_13) (fun _ h9 => h9) dJ0_coder_7d493_7 ?_
  refine lv_goto (tgt := 14) F.1 F.2.1 dJ0_coder_7d493_10 (by decide) ?_
  exact txI F hS dJ0_coder_7d493_14 rfl ⟨by decide, hH⟩
set_option maxHeartbeats 4000000 in
set_option maxRecDepth 100000 in
theorem c_isLatin1 (E : Ev) (pre : Heap → Prop) (t n : Nat) (ht : strOf t n) : TcI E yJ0_isLatin1_aae02 cJ0_isLatin1_aae02 1 .boolean ({ frames := 1, cells := 0, slots := 0, locals := 40 }) [.ref (eX E t)] pre (fun v H => v.toInt = 1 ∧ pre H) := by
  refine teI (by decide) (Nat.le_of_ble_eq_true rfl) ?_
  intro p_ ev_ s mi_ below_ meth cd_ ls F hK hN hO hH hS hl
  have hl : lv_has ls 1 [(0, .ref (eX E t))] := hl
  obtain ⟨x, hx, -⟩ := ht
  obtain ⟨-, f, h1, h2, h3, h4, -⟩ := hO.1 t x hx
  refine va_gets F.1 F.2.1 hO.2.1 hS F.2.2.2.2.1 (F.2.2.2.2.2.2.1 _ wd_10_12) (fun _ h9 => h9) dJ0_isLatin1_aae02_0 ?_
  refine lv_if_eq (tgt := 17) F.1 F.2.1 dJ0_isLatin1_aae02_3 (by decide) (fun c_ => absurd c_ (by decide)) (fun _ => ?_)
  refine lv_aload_n F.1 F.2.1 dJ0_isLatin1_aae02_6 rfl (lv_at hl 0 rfl) ?_
  refine vk_getf F.1 F.2.1 h2 hS F.2.2.2.2.1 (F.2.2.2.2.2.2.1 _ wd_10_13) (fun _ h9 => h9) dJ0_isLatin1_aae02_7 ?_
  refine z_ne (tgt := 17) F dJ0_isLatin1_aae02_10 (by decide) (fun c_ => absurd (by decide) c_) (fun _ => ?_)
  refine lv_iconst (v := 1) F.1 F.2.1 dJ0_isLatin1_aae02_13 (by decide) ?_
  refine lv_goto (tgt := 18) F.1 F.2.1 dJ0_isLatin1_aae02_14 (by decide) ?_
  exact txI F hS dJ0_isLatin1_aae02_18 rfl ⟨by decide, hH⟩
set_option maxHeartbeats 4000000 in
set_option maxRecDepth 100000 in
theorem c_pci0 (E : Ev) (pre : Heap → Prop) (a b : Int32) (h1 : 0 ≤ a.toInt) (h2 : a.toInt < b.toInt) : TcI E yJ3_checkIndex_8e157 cJ3_checkIndex_8e157 3 .int ({ frames := 1, cells := 0, slots := 0, locals := 40 }) [.int a, .int b, .null] pre (fun v H => v.toInt = a.toInt ∧ pre H) := by
  refine teI (by decide) (Nat.le_of_ble_eq_true rfl) ?_
  intro p_ ev_ s mi_ below_ meth cd_ ls F hK hN hO hH hS hl
  have hl : lv_has ls 3 [(0, .int a), (1, .int b), (2, .null)] := hl
  refine lv_iload_n F.1 F.2.1 dJ3_checkIndex_8e157_0 rfl (lv_at hl 0 rfl) ?_
  refine z_lt (tgt := 9) F dJ3_checkIndex_8e157_1 (by decide) (fun c_ => absurd c_ (by omega)) (fun _ => ?_)
  refine lv_iload_n F.1 F.2.1 dJ3_checkIndex_8e157_4 rfl (lv_at hl 0 rfl) ?_
  refine lv_iload_n F.1 F.2.1 dJ3_checkIndex_8e157_5 rfl (lv_at hl 1 rfl) ?_
  refine b_lt (tgt := 16) F dJ3_checkIndex_8e157_6 (by decide) (fun _ => ?_) (fun c_ => absurd c_ (by omega))
  refine lv_iload_n F.1 F.2.1 dJ3_checkIndex_8e157_16 rfl (lv_at hl 0 rfl) ?_
  exact txI F hS dJ3_checkIndex_8e157_17 rfl ⟨rfl, hH⟩
set_option maxHeartbeats 4000000 in
set_option maxRecDepth 100000 in
theorem c_pciq (E : Ev) (pre : Heap → Prop) (a b : Int32) (q : Nat) (h1 : 0 ≤ a.toInt) (h2 : a.toInt < b.toInt) : TcI E yJ3_checkIndex_8e157 cJ3_checkIndex_8e157 3 .int ({ frames := 1, cells := 0, slots := 0, locals := 40 }) [.int a, .int b, .ref q] pre (fun v H => v.toInt = a.toInt ∧ pre H) := by
  refine teI (by decide) (Nat.le_of_ble_eq_true rfl) ?_
  intro p_ ev_ s mi_ below_ meth cd_ ls F hK hN hO hH hS hl
  have hl : lv_has ls 3 [(0, .int a), (1, .int b), (2, .ref q)] := hl
  refine lv_iload_n F.1 F.2.1 dJ3_checkIndex_8e157_0 rfl (lv_at hl 0 rfl) ?_
  refine z_lt (tgt := 9) F dJ3_checkIndex_8e157_1 (by decide) (fun c_ => absurd c_ (by omega)) (fun _ => ?_)
  refine lv_iload_n F.1 F.2.1 dJ3_checkIndex_8e157_4 rfl (lv_at hl 0 rfl) ?_
  refine lv_iload_n F.1 F.2.1 dJ3_checkIndex_8e157_5 rfl (lv_at hl 1 rfl) ?_
  refine b_lt (tgt := 16) F dJ3_checkIndex_8e157_6 (by decide) (fun _ => ?_) (fun c_ => absurd c_ (by omega))
  refine lv_iload_n F.1 F.2.1 dJ3_checkIndex_8e157_16 rfl (lv_at hl 0 rfl) ?_
  exact txI F hS dJ3_checkIndex_8e157_17 rfl ⟨rfl, hH⟩
set_option maxHeartbeats 4000000 in
set_option maxRecDepth 100000 in
theorem c_sci (E : Ev) (pre : Heap → Prop) (a b : Int32) (h1 : 0 ≤ a.toInt) (h2 : a.toInt < b.toInt) : TcV E yJ0_checkIndex_df160 cJ0_checkIndex_df160 2 ({ frames := 2, cells := 0, slots := 0, locals := 80 }) [.int a, .int b] pre (fun H => pre H) := by
  refine teV (by decide) (Nat.le_of_ble_eq_true rfl) ?_
  intro p_ ev_ s mi_ below_ meth cd_ ls F hK hN hO hH hS hl
  have hl : lv_has ls 2 [(0, .int a), (1, .int b)] := hl
  refine lv_iload_n F.1 F.2.1 dJ0_checkIndex_df160_0 rfl (lv_at hl 0 rfl) ?_
  refine lv_iload_n F.1 F.2.1 dJ0_checkIndex_df160_1 rfl (lv_at hl 1 rfl) ?_
  rcases hO.2.2 with hz | ⟨q, hz⟩
  · refine va_gets F.1 F.2.1 hz hS F.2.2.2.2.1 (F.2.2.2.2.2.2.1 _ wd_11_5) (fun _ h9 => h9) dJ0_checkIndex_df160_2 ?_
    refine tSi (As := [.int a, .int b, .null]) (rest := []) F hK hN hO (c_pci0 E pre a b h1 h2) ms_J3_checkIndex_8e157 wd_11_6 ⟨Nat.le_of_ble_eq_true rfl, Nat.le_of_ble_eq_true rfl⟩ ⟨Nat.le_of_ble_eq_true rfl, Nat.le_of_ble_eq_true rfl⟩ hH hS rfl hl.1 (Nat.le_of_ble_eq_true rfl) dJ0_checkIndex_df160_5 (fun v H locs hq hS => ?_)
    refine lv_pop F.1 F.2.1 dJ0_checkIndex_df160_8 rfl ?_
    exact txV F hS dJ0_checkIndex_df160_9 hq.2
  · refine va_gets F.1 F.2.1 hz hS F.2.2.2.2.1 (F.2.2.2.2.2.2.1 _ wd_11_5) (fun _ h9 => h9) dJ0_checkIndex_df160_2 ?_
    refine tSi (As := [.int a, .int b, .ref q]) (rest := []) F hK hN hO (c_pciq E pre a b q h1 h2) ms_J3_checkIndex_8e157 wd_11_6 ⟨Nat.le_of_ble_eq_true rfl, Nat.le_of_ble_eq_true rfl⟩ ⟨Nat.le_of_ble_eq_true rfl, Nat.le_of_ble_eq_true rfl⟩ hH hS rfl hl.1 (Nat.le_of_ble_eq_true rfl) dJ0_checkIndex_df160_5 (fun v H locs hq hS => ?_)
    refine lv_pop F.1 F.2.1 dJ0_checkIndex_df160_8 rfl ?_
    exact txV F hS dJ0_checkIndex_df160_9 hq.2
set_option maxHeartbeats 4000000 in
set_option maxRecDepth 100000 in
theorem c_lca (E : Ev) (pre : Heap → Prop) (t n : Nat) (ht : strOf t n) (i : Int32) (h1 : 0 ≤ i.toInt) (h2 : i.toInt < n) : TcI E yJ1_charAt_3b067 cJ1_charAt_3b067 2 .char ({ frames := 3, cells := 0, slots := 0, locals := 120 }) [.ref (eV E t), .int i] pre (fun v H => ((0 ≤ v.toInt ∧ v.toInt ≤ 127) ∧ v.toInt = (txW.getD t []).getD i.toInt.toNat 0) ∧ pre H) := by
  refine teI (by decide) (Nat.le_of_ble_eq_true rfl) ?_
  intro p_ ev_ s mi_ below_ meth cd_ ls F hK hN hO hH hS hl
  have hl : lv_has ls 2 [(0, .ref (eV E t)), (1, .int i)] := hl
  have hn := strLe ht
  obtain ⟨x, hx, rfl⟩ := ht
  obtain ⟨-, f, h3, h4, h5, h6, h7⟩ := hO.1 t x hx
  have hN2 : (Int32.ofNat x.2.2.2).toInt = (x.2.2.2 : Int) := nI_toInt (by omega)
  refine lv_iload_n F.1 F.2.1 dJ1_charAt_3b067_0 rfl (lv_at hl 1 rfl) ?_
  refine lv_aload_n F.1 F.2.1 dJ1_charAt_3b067_1 rfl (lv_at hl 0 rfl) ?_
  refine va_tlen F.1 F.2.1 h6 hS rfl dJ1_charAt_3b067_2 ?_
  refine tSv (As := [.int i, .int (Int32.ofNat x.2.2.2)]) (rest := []) F hK hN hO (c_sci E pre i _ h1 (by rw [hN2]; exact h2)) ms_J0_checkIndex_df160 wd_11_2 ⟨Nat.le_of_ble_eq_true rfl, Nat.le_of_ble_eq_true rfl⟩ ⟨Nat.le_of_ble_eq_true rfl, Nat.le_of_ble_eq_true rfl⟩ hH hS rfl hl.1 (Nat.le_of_ble_eq_true rfl) dJ1_charAt_3b067_3 (fun H locs hH hS => ?_)
  refine lv_aload_n F.1 F.2.1 dJ1_charAt_3b067_6 rfl (lv_at hl 0 rfl) ?_
  refine lv_iload_n F.1 F.2.1 dJ1_charAt_3b067_7 rfl (lv_at hl 1 rfl) ?_
  refine va_tb F.1 F.2.1 h6 hS (vinT ⟨h1, h2⟩) rfl dJ1_charAt_3b067_8 ?_
  refine lv_sipush (v := 255) F.1 F.2.1 dJ1_charAt_3b067_9 (by decide) ?_
  refine lv_iand F.1 F.2.1 dJ1_charAt_3b067_12 ?_
  refine lv_i2c F.1 F.2.1 dJ1_charAt_3b067_13 rfl ?_
  have hE := chrE (h7 i.toNatClampNeg (by show i.toInt.toNat < _; omega)) (txLe hx (by show i.toInt.toNat < _; omega))
  exact txI F hS dJ1_charAt_3b067_14 (narC (charB _)) ⟨⟨by rw [hE]; exact txLe hx (by show i.toInt.toNat < _; omega), hE⟩, hH⟩
set_option maxHeartbeats 4000000 in
set_option maxRecDepth 100000 in
theorem c_len (E : Ev) (pre : Heap → Prop) (t n : Nat) (ht : strOf t n) : TcI E yJ0_length_8abf5 cJ0_length_8abf5 1 .int ({ frames := 2, cells := 0, slots := 0, locals := 80 }) [.ref (eX E t)] pre (fun v H => v.toInt = n ∧ pre H) := by
  refine teI (by decide) (Nat.le_of_ble_eq_true rfl) ?_
  intro p_ ev_ s mi_ below_ meth cd_ ls F hK hN hO hH hS hl
  have hl : lv_has ls 1 [(0, .ref (eX E t))] := hl
  have hn := strLe ht
  have ht0 := ht
  obtain ⟨x, hx, rfl⟩ := ht
  obtain ⟨-, f, h3, h4, h5, h6, h7⟩ := hO.1 t x hx
  have hN2 : (Int32.ofNat x.2.2.2).toInt = (x.2.2.2 : Int) := nI_toInt (by omega)
  refine lv_aload_n F.1 F.2.1 dJ0_length_8abf5_0 rfl (lv_at hl 0 rfl) ?_
  refine vk_getf F.1 F.2.1 h5 hS F.2.2.2.2.1 (F.2.2.2.2.2.2.1 _ wd_10_7) (fun _ h9 => h9) dJ0_length_8abf5_1 ?_
  refine va_tlen F.1 F.2.1 h6 hS rfl dJ0_length_8abf5_4 ?_
  refine lv_aload_n F.1 F.2.1 dJ0_length_8abf5_5 rfl (lv_at hl 0 rfl) ?_
  refine tVi (b := eX E t) (As := []) (rest := [.int (Int32.ofNat x.2.2.2)]) F hK hN hO (c_coder E pre t _ ht0) mv_J0_coder_7d493 wd_10_8 ⟨Nat.le_of_ble_eq_true rfl, Nat.le_of_ble_eq_true rfl⟩ ⟨Nat.le_of_ble_eq_true rfl, Nat.le_of_ble_eq_true rfl⟩ hH hS (sRecv hO hx hS) rfl hl.1 (Nat.le_of_ble_eq_true rfl) dJ0_length_8abf5_6 (fun v H locs hq hS => ?_)
  have hv : v = 0 := swe (hq.1.trans (by decide))
  subst hv
  refine lv_ishr F.1 F.2.1 dJ0_length_8abf5_9 ?_
  exact txI F hS dJ0_length_8abf5_10 rfl ⟨by rw [sb_shr0]; exact hN2, hq.2⟩
set_option maxHeartbeats 4000000 in
set_option maxRecDepth 100000 in
theorem c_chr (E : Ev) (pre : Heap → Prop) (t n : Nat) (ht : strOf t n) (i : Int32) (h1 : 0 ≤ i.toInt) (h2 : i.toInt < n) : TcI E yJ0_charAt_5068e cJ0_charAt_5068e 2 .char ({ frames := 4, cells := 0, slots := 0, locals := 160 }) [.ref (eX E t), .int i] pre (fun v H => ((0 ≤ v.toInt ∧ v.toInt ≤ 127) ∧ v.toInt = (txW.getD t []).getD i.toInt.toNat 0) ∧ pre H) := by
  refine teI (by decide) (Nat.le_of_ble_eq_true rfl) ?_
  intro p_ ev_ s mi_ below_ meth cd_ ls F hK hN hO hH hS hl
  have hl : lv_has ls 2 [(0, .ref (eX E t)), (1, .int i)] := hl
  have ht0 := ht
  obtain ⟨x, hx, rfl⟩ := ht
  obtain ⟨-, f, h3, h4, h5, h6, h7⟩ := hO.1 t x hx
  refine lv_aload_n F.1 F.2.1 dJ0_charAt_5068e_0 rfl (lv_at hl 0 rfl) ?_
  refine tVi (b := eX E t) (As := []) (rest := []) F hK hN hO (c_isLatin1 E pre t _ ht0) mv_J0_isLatin1_aae02 wd_10_18 ⟨Nat.le_of_ble_eq_true rfl, Nat.le_of_ble_eq_true rfl⟩ ⟨Nat.le_of_ble_eq_true rfl, Nat.le_of_ble_eq_true rfl⟩ hH hS (sRecv hO hx hS) rfl hl.1 (Nat.le_of_ble_eq_true rfl) dJ0_charAt_5068e_1 (fun v H locs hq hS => ?_)
  obtain ⟨hv, hH⟩ := hq
  refine z_eq (tgt := 16) F dJ0_charAt_5068e_4 (by decide) (fun c_ => absurd c_ (by omega)) (fun _ => ?_)
  refine lv_aload_n F.1 F.2.1 dJ0_charAt_5068e_7 rfl (lv_at hl 0 rfl) ?_
  refine vk_getf F.1 F.2.1 h5 hS F.2.2.2.2.1 (F.2.2.2.2.2.2.1 _ wd_10_7) (fun _ h9 => h9) dJ0_charAt_5068e_8 ?_
  refine lv_iload_n F.1 F.2.1 dJ0_charAt_5068e_11 rfl (lv_at hl 1 rfl) ?_
  refine tSi (As := [.ref (eV E t), .int i]) (rest := []) F hK hN hO (c_lca E pre t _ ht0 i h1 h2) ms_J1_charAt_3b067 wd_10_22 ⟨Nat.le_of_ble_eq_true rfl, Nat.le_of_ble_eq_true rfl⟩ ⟨Nat.le_of_ble_eq_true rfl, Nat.le_of_ble_eq_true rfl⟩ hH hS rfl hl.1 (Nat.le_of_ble_eq_true rfl) dJ0_charAt_5068e_12 (fun v H locs hq hS => ?_)
  exact txI F hS dJ0_charAt_5068e_15 (narC ⟨hq.1.1.1, by have h9_ := hq.1.1.2; omega⟩) hq
