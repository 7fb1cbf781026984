theorem dX0_pass_0 : decode cX0_pass 0 = .ok (.aload_n 0, 1) := by decide +kernel
theorem dX0_pass_1 : decode cX0_pass 1 = .ok (.invokevirtual 202, 3) := by decide +kernel
theorem dX0_pass_4 : decode cX0_pass 4 = .ok (.iconst 0, 1) := by decide +kernel
theorem dX0_pass_5 : decode cX0_pass 5 = .ok (.istore_n 1, 1) := by decide +kernel
theorem dX0_pass_6 : decode cX0_pass 6 = .ok (.iload_n 1, 1) := by decide +kernel
theorem dX0_pass_7 : decode cX0_pass 7 = .ok (.aload_n 0, 1) := by decide +kernel
theorem dX0_pass_8 : decode cX0_pass 8 = .ok (.getfield 46, 3) := by decide +kernel
theorem dX0_pass_11 : decode cX0_pass 11 = .ok (.getfield 57, 3) := by decide +kernel
theorem dX0_pass_14 : decode cX0_pass 14 = .ok (.if_icmp .ge 14, 3) := by decide +kernel
theorem dX0_pass_17 : decode cX0_pass 17 = .ok (.aload_n 0, 1) := by decide +kernel
theorem dX0_pass_18 : decode cX0_pass 18 = .ok (.iload_n 1, 1) := by decide +kernel
theorem dX0_pass_19 : decode cX0_pass 19 = .ok (.invokevirtual 205, 3) := by decide +kernel
theorem dX0_pass_22 : decode cX0_pass 22 = .ok (.iinc 1 1, 3) := by decide +kernel
theorem dX0_pass_25 : decode cX0_pass 25 = .ok (.goto (-19), 3) := by decide +kernel
theorem dX0_pass_28 : decode cX0_pass 28 = .ok (.iconst 0, 1) := by decide +kernel
theorem dX0_pass_29 : decode cX0_pass 29 = .ok (.istore_n 1, 1) := by decide +kernel
theorem dX0_pass_30 : decode cX0_pass 30 = .ok (.iload_n 1, 1) := by decide +kernel
theorem dX0_pass_31 : decode cX0_pass 31 = .ok (.aload_n 0, 1) := by decide +kernel
theorem dX0_pass_32 : decode cX0_pass 32 = .ok (.getfield 46, 3) := by decide +kernel
theorem dX0_pass_35 : decode cX0_pass 35 = .ok (.getfield 71, 3) := by decide +kernel
theorem dX0_pass_38 : decode cX0_pass 38 = .ok (.if_icmp .ge 23, 3) := by decide +kernel
theorem dX0_pass_41 : decode cX0_pass 41 = .ok (.aload_n 0, 1) := by decide +kernel
theorem dX0_pass_42 : decode cX0_pass 42 = .ok (.getfield 50, 3) := by decide +kernel
theorem dX0_pass_45 : decode cX0_pass 45 = .ok (.getfield 108, 3) := by decide +kernel
theorem dX0_pass_48 : decode cX0_pass 48 = .ok (.iload_n 1, 1) := by decide +kernel
theorem dX0_pass_49 : decode cX0_pass 49 = .ok (.aload_n 0, 1) := by decide +kernel
theorem dX0_pass_50 : decode cX0_pass 50 = .ok (.iload_n 1, 1) := by decide +kernel
theorem dX0_pass_51 : decode cX0_pass 51 = .ok (.invokevirtual 208, 3) := by decide +kernel
theorem dX0_pass_54 : decode cX0_pass 54 = .ok (.iastore, 1) := by decide +kernel
theorem dX0_pass_55 : decode cX0_pass 55 = .ok (.iinc 1 1, 3) := by decide +kernel
theorem dX0_pass_58 : decode cX0_pass 58 = .ok (.goto (-28), 3) := by decide +kernel
theorem dX0_pass_61 : decode cX0_pass 61 = .ok (.aload_n 0, 1) := by decide +kernel
theorem dX0_pass_62 : decode cX0_pass 62 = .ok (.getfield 50, 3) := by decide +kernel
theorem dX0_pass_65 : decode cX0_pass 65 = .ok (.getfield 211, 3) := by decide +kernel
theorem dX0_pass_68 : decode cX0_pass 68 = .ok (.iconst 5, 1) := by decide +kernel
theorem dX0_pass_69 : decode cX0_pass 69 = .ok (.dup2, 1) := by decide +kernel
theorem dX0_pass_70 : decode cX0_pass 70 = .ok (.laload, 1) := by decide +kernel
theorem dX0_pass_71 : decode cX0_pass 71 = .ok (.lconst 1, 1) := by decide +kernel
theorem dX0_pass_72 : decode cX0_pass 72 = .ok (.ladd, 1) := by decide +kernel
theorem dX0_pass_73 : decode cX0_pass 73 = .ok (.lastore, 1) := by decide +kernel
theorem dX0_pass_74 : decode cX0_pass 74 = .ok (.aload_n 0, 1) := by decide +kernel
theorem dX0_pass_75 : decode cX0_pass 75 = .ok (.getfield 50, 3) := by decide +kernel
theorem dX0_pass_78 : decode cX0_pass 78 = .ok (.dup, 1) := by decide +kernel
theorem dX0_pass_79 : decode cX0_pass 79 = .ok (.getfield 138, 3) := by decide +kernel
theorem dX0_pass_82 : decode cX0_pass 82 = .ok (.iconst 1, 1) := by decide +kernel
theorem dX0_pass_83 : decode cX0_pass 83 = .ok (.iadd, 1) := by decide +kernel
theorem dX0_pass_84 : decode cX0_pass 84 = .ok (.putfield 138, 3) := by decide +kernel
theorem dX0_pass_87 : decode cX0_pass 87 = .ok (.aload_n 0, 1) := by decide +kernel
theorem dX0_pass_88 : decode cX0_pass 88 = .ok (.getfield 50, 3) := by decide +kernel
theorem dX0_pass_91 : decode cX0_pass 91 = .ok (.getfield 138, 3) := by decide +kernel
theorem dX0_pass_94 : decode cX0_pass 94 = .ok (.sipush 360, 3) := by decide +kernel
theorem dX0_pass_97 : decode cX0_pass 97 = .ok (.if_icmp .lt 28, 3) := by decide +kernel
theorem dX0_pass_100 : decode cX0_pass 100 = .ok (.aload_n 0, 1) := by decide +kernel
theorem dX0_pass_101 : decode cX0_pass 101 = .ok (.getfield 50, 3) := by decide +kernel
theorem dX0_pass_104 : decode cX0_pass 104 = .ok (.iconst 0, 1) := by decide +kernel
theorem dX0_pass_105 : decode cX0_pass 105 = .ok (.putfield 138, 3) := by decide +kernel
theorem dX0_pass_108 : decode cX0_pass 108 = .ok (.aload_n 0, 1) := by decide +kernel
theorem dX0_pass_109 : decode cX0_pass 109 = .ok (.getfield 46, 3) := by decide +kernel
theorem dX0_pass_112 : decode cX0_pass 112 = .ok (.getfield 150, 3) := by decide +kernel
theorem dX0_pass_115 : decode cX0_pass 115 = .ok (.aload_n 0, 1) := by decide +kernel
theorem dX0_pass_116 : decode cX0_pass 116 = .ok (.getfield 50, 3) := by decide +kernel
theorem dX0_pass_119 : decode cX0_pass 119 = .ok (.getfield 153, 3) := by decide +kernel
theorem dX0_pass_122 : decode cX0_pass 122 = .ok (.invokestatic 215, 3) := by decide +kernel
theorem dX0_pass_125 : decode cX0_pass 125 = .ok (.return_, 1) := by decide +kernel
/-! the end of a DAY: the State's day may be 360 for a moment -/
abbrev stFD : List FD := [(.inl (0, 359)), (.inl ((-2147483648), 2147483647)), (.inr [4]), (.inr [3]), (.inr [3]), (.inr [3]), (.inr [7]), (.inr [3]), (.inr [8]), (.inr [10]), (.inr [8]), (.inr [11]), (.inr [12])]
section TPASS
variable {p : Program} {e : Env} {R : Room} {s : State} {m : MethodId} {args : Array Value} {below : List Frame} {meth : Method} {c : Code} {H : Heap} {locs : List Loc} {cells slots : Nat} {Q : State → Prop}
variable {E : Ev} {ls : Array Slot} {dA dB rA rB rc rd tp ya yb yc yd ye yf rC rD wd1 wd2 wd3 wd4 ws1 ws2 ws3 ws4 wi1 wi2 wi3 wi4 : TD} {q : FD} {a0 : Nat}
theorem passSeg (F : Fx p s m meth c args yX0_pass cX0_pass 2 none) (hK : va_K (eG E) vwCl (tyk (eK E)) s) (hH : TH E (tbC dA dB rA rB rc rd tp ya yb yc yd ye yf rC rD wd1 wd2 wd3 wd4 ws1 ws2 ws3 ws4 wi1 wi2 wi3 wi4) H) (hS : va_S (eA E s.heap.size) s.heap H locs) (hb : (tbC dA dB rA rB rc rd tp ya yb yc yd ye yf rC rD wd1 wd2 wd3 wd4 ws1 ws2 ws3 ws4 wi1 wi2 wi3 wi4)[eT E a0]? = some (dayD q)) (hl0 : ls[0]? = some (.val (.ref a0)))
    (k1 : ∀ (H1 : Heap) (locs1 : List Loc), TH E (tbC dA dB rA rB rc rd tp ya yb yc yd ye yf rC rD wd1 wd2 wd3 wd4 ws1 ws2 ws3 ws4 wi1 wi2 wi3 wi4) H1 → va_S (eA E s.heap.size) s.heap H1 locs1 → W p (eL E) e R s m args below meth c H1 locs1 cells slots Q (F0 m 125 ls []))
    (k2 : ∀ (H1 : Heap) (locs1 : List Loc), TH E (tbC dA dB rA rB rc rd tp ya yb yc yd ye yf rC rD wd1 wd2 wd3 wd4 ws1 ws2 ws3 ws4 wi1 wi2 wi3 wi4) H1 → va_S (eA E s.heap.size) s.heap H1 locs1 → W p (eL E) e R s m args below meth c H1 locs1 cells slots Q (F0 m 108 ls [])) : W p (eL E) e R s m args below meth c H locs cells slots Q (F0 m 74 ls []) := by
  obtain ⟨hx, hb0, hr, hml, hown, hlk, hw, -⟩ := F
  obtain ⟨ws, i, e1, hlen0, hP, hD, hT, hi, fs, rfl, hlen, hfs⟩ := hH.at hb
  obtain ⟨v1, hv1, q1, rfl, hq1⟩ := hfs 1 _ rfl
  have hq17 : eT E q1 = 17 := List.mem_singleton.mp hq1
  have hbq : (tbC dA dB rA rB rc rd tp ya yb yc yd ye yf rC rD wd1 wd2 wd3 wd4 ws1 ws2 ws3 ws4 wi1 wi2 wi3 wi4)[eT E q1]? = some stateD := by rw [hq17]; rfl
  obtain ⟨j, e2, hj⟩ := hT.2 q1 (List.getElem?_eq_some_iff.mp hbq).1
  obtain ⟨d2, h4, h5⟩ := hT.1 j _ hj
  have hd2 : d2 = stateD := Option.some.inj (h4.symm.trans hbq)
  subst hd2
  obtain ⟨fs2, rfl, hlen2, hfs2⟩ := h5
  obtain ⟨v2, hv2, x, rfl, hx1, hx2⟩ := hfs2 0 _ rfl
  have hij : j ≠ i := fun h => by
    subst h
    rw [hi] at hj
    cases hj
  have hjl : j < ws.length := (List.getElem?_eq_some_iff.mp hj).1
  have h0l : 0 < fs2.length := by rw [hlen2]; decide
  refine lv_aload_n hx hb0 dX0_pass_74 rfl hl0 ?_
  refine va_get hx hb0 hw clX0.2.1 hown hK hP i hi clX0.1 1 (by decide) (hw _ wd_5_0) (fun _ h9 => h9) hv1 dX0_pass_75 ?_
  refine lv_dup hx hb0 dX0_pass_78 rfl ?_
  refine va_get hx hb0 hw clX5.2.1 hown hK hP j hj clX5.1 0 (by decide) (hw _ wd_21_17) (fun _ h9 => h9) hv2 dX0_pass_79 ?_
  refine lv_iconst (v := 1) hx hb0 dX0_pass_82 (by decide) ?_
  refine lv_iadd hx hb0 dX0_pass_83 ?_
  have ex : (x + 1).toInt = x.toInt + 1 := by
    have := i_add (x := x) (y := 1) (by rw [show (1 : Int32).toInt = 1 by decide]; omega) (by rw [show (1 : Int32).toInt = 1 by decide]; omega)
    rw [show (1 : Int32).toInt = 1 by decide] at this
    exact this
  refine va_put hx hb0 hw clX5.2.1 tyX5 clX5.2.2.1 clX5.2.2.2 hown hK hP (Typed.dom hlen0.1 hT hD s.heap.size) hS j hj clX5.1 0 (by decide) (hw _ wd_21_17) (fun _ h9 => h9) rfl (clX5.2.2.1 0 (by decide)) rfl rfl h0l dX0_pass_84 (fun H1 locs1 hP1 hD1 hS1 => ?_)
  have hi1 : (ws.set j (q1, .inr (5, fs2.set 0 (.int (x + 1)))))[i]? = some (a0, .inr (0, fs)) := by rw [List.getElem?_set_ne hij]; exact hi
  have hj1 : (ws.set j (q1, .inr (5, fs2.set 0 (.int (x + 1)))))[j]? = some (q1, .inr (5, fs2.set 0 (.int (x + 1)))) := by rw [List.getElem?_set_self hjl]
  refine lv_aload_n hx hb0 dX0_pass_87 rfl hl0 ?_
  refine va_get hx hb0 hw clX0.2.1 hown hK hP1 i hi1 clX0.1 1 (by decide) (hw _ wd_5_0) (fun _ h9 => h9) hv1 dX0_pass_88 ?_
  refine va_get hx hb0 hw clX5.2.1 hown hK hP1 j hj1 clX5.1 0 (by decide) (hw _ wd_21_17) (fun _ h9 => h9) (v := .int (x + 1)) (by rw [List.getElem?_set_self h0l]) dX0_pass_91 ?_
  refine lv_sipush (v := 360) hx hb0 dX0_pass_94 (by decide) ?_
  refine lv_icmp_lt (tgt := 125) hx hb0 dX0_pass_97 (by decide) (fun c1 => ?_) (fun c1 => ?_)
  · refine k1 H1 locs1 ⟨hlen0, _, hP1, va_Dset hD hj, hT.put hj hbq ?_⟩ hS1
    have c2 := Int32.lt_iff_toInt_lt.mp c1
    rw [show (360 : Int32).toInt = 360 by decide, ex] at c2
    exact fds_set (k := eK E) (tg := eT E) (ci := 5) (fds := stFD) (fd := .inl (0, 359)) hlen2 hfs2 h0l ⟨x + 1, rfl, by show (0 : Int) ≤ _; omega, by show _ ≤ (359 : Int); omega⟩
  · refine lv_aload_n hx hb0 dX0_pass_100 rfl hl0 ?_
    refine va_get hx hb0 hw clX0.2.1 hown hK hP1 i hi1 clX0.1 1 (by decide) (hw _ wd_5_0) (fun _ h9 => h9) hv1 dX0_pass_101 ?_
    refine lv_iconst (v := 0) hx hb0 dX0_pass_104 (by decide) ?_
    refine va_put hx hb0 hw clX5.2.1 tyX5 clX5.2.2.1 clX5.2.2.2 hown hK hP1 hD1 hS1 j hj1 clX5.1 0 (by decide) (hw _ wd_21_17) (fun _ h9 => h9) rfl (clX5.2.2.1 0 (by decide)) rfl rfl (by rw [List.length_set]; exact h0l) dX0_pass_105 (fun H2 locs2 hP2 hD2 hS2 => ?_)
    rw [List.set_set, List.set_set] at hP2
    refine k2 H2 locs2 ⟨hlen0, _, hP2, va_Dset hD hj, hT.put hj hbq ?_⟩ hS2
    exact fds_set (k := eK E) (tg := eT E) (ci := 5) (fds := stFD) (fd := .inl (0, 359)) hlen2 hfs2 h0l ⟨0, rfl, by decide, by decide⟩
end TPASS
