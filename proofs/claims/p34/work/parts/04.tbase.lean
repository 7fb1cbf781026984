/-! heaps by kinds: each address has a kind, a table says what a cell of a kind may hold -/
abbrev FD : Type := (Int × Int) ⊕ (List Nat)
abbrev TD : Type := (Nat × List FD) ⊕ ((Nat × Nat × ((Nat → Int32) → Prop)) ⊕ (Nat ⊕ (Nat × Nat × (Nat → List Nat))))
def fdOK (tg : Nat → Nat) (d : FD) (v : Value) : Prop := match d with
  | .inl b => ∃ x : Int32, v = .int x ∧ b.1 ≤ x.toInt ∧ x.toInt ≤ b.2
  | .inr l => ∃ q : Nat, v = .ref q ∧ tg q ∈ l
def tcOK (k : Nat → ClassId) (tg : Nat → Nat) (d : TD) (e : va_E) : Prop := match d with
  | .inl o => ∃ fs : List Value, e = .inr (o.1, fs) ∧ fs.length = o.2.length ∧ ∀ (j : Nat) (fd : FD), o.2[j]? = some fd → ∃ v, fs[j]? = some v ∧ fdOK tg fd v
  | .inr (.inl a) => ∃ f : Nat → Int32, e = .inl (k a.1, a.2.1, .inl f) ∧ a.2.2 f
  | .inr (.inr (.inl n)) => ∃ f : Nat → Int64, e = .inl (k 2, n, .inr (.inl f))
  | .inr (.inr (.inr a)) => ∃ f : Nat → Option Nat, e = .inl (k a.1, a.2.1, .inr (.inr (.inr (.inr f)))) ∧ ∀ j, j < a.2.1 → ∃ q, f j = some q ∧ tg q ∈ a.2.2 j
def Typed (k : Nat → ClassId) (tg : Nat → Nat) (TB : List TD) (ws : va_W) : Prop :=
  (∀ (i : Nat) (q : Nat × va_E), ws[i]? = some q → ∃ d, TB[tg q.1]? = some d ∧ tcOK k tg d q.2) ∧ ∀ a, tg a < TB.length → ∃ (i : Nat) (e : va_E), ws[i]? = some (a, e)
/-- the launch, the classes' numbers, the arrays' classes, the kinds, how many, the texts' addresses -/
abbrev Ev : Type := Launch × va_G × (Nat → ClassId) × (Nat → Nat) × Nat × (Nat → Nat) × (Nat → Nat)
abbrev eL (E : Ev) : Launch := E.1
abbrev eG (E : Ev) : va_G := E.2.1
abbrev eK (E : Ev) : Nat → ClassId := E.2.2.1
abbrev eT (E : Ev) : Nat → Nat := E.2.2.2.1
abbrev eN (E : Ev) : Nat := E.2.2.2.2.1
abbrev eX (E : Ev) : Nat → Nat := E.2.2.2.2.2.1
abbrev eV (E : Ev) : Nat → Nat := E.2.2.2.2.2.2
/-- all kinds from the 24th on have one cell each -/
def uqs (E : Ev) : Prop := ∀ a b, 24 ≤ eT E a → eT E a < eN E → eT E a = eT E b → a = b
def TH (E : Ev) (TB : List TD) (H : Heap) : Prop := (TB.length = eN E ∧ uqs E) ∧ ∃ ws : va_W, va_P (eG E) vwCl ws H ∧ va_D (fun _ => True) ws ∧ Typed (eK E) (eT E) TB ws
def eA (E : Ev) (sz : Nat) : Nat → Prop := fun q => eT E q < eN E ∨ sz ≤ q
theorem eA_mono {E : Ev} {a b : Nat} (h : a ≤ b) : ∀ q, eA E b q → eA E a q := fun q hq => hq.imp id (fun h2 => Nat.le_trans h h2)
theorem Typed.dom {k : Nat → ClassId} {E : Ev} {TB : List TD} {ws : va_W} (hl : TB.length = eN E) (hT : Typed k (eT E) TB ws) (hD : va_D (fun _ => True) ws) (sz : Nat) : va_D (eA E sz) ws := by
  refine ⟨hD.1, fun i q hi => Or.inl ?_⟩
  obtain ⟨d, h1, -⟩ := hT.1 i q hi
  rw [← hl]
  exact (List.getElem?_eq_some_iff.mp h1).1
theorem TH.at {E : Ev} {TB : List TD} {H : Heap} {b : Nat} {d : TD} (h : TH E TB H) (hb : TB[eT E b]? = some d) : ∃ (ws : va_W) (i : Nat) (e : va_E), (TB.length = eN E ∧ uqs E) ∧ va_P (eG E) vwCl ws H ∧ va_D (fun _ => True) ws ∧ Typed (eK E) (eT E) TB ws ∧ ws[i]? = some (b, e) ∧ tcOK (eK E) (eT E) d e := by
  obtain ⟨h0, ws, h1, h2, h3⟩ := h
  obtain ⟨i, e, hi⟩ := h3.2 b (List.getElem?_eq_some_iff.mp hb).1
  obtain ⟨d', h4, h5⟩ := h3.1 i _ hi
  have : d' = d := Option.some.inj (h4.symm.trans hb)
  subst this
  exact ⟨ws, i, e, h0, h1, h2, h3, hi, h5⟩
theorem Typed.put {k : Nat → ClassId} {tg : Nat → Nat} {TB : List TD} {ws : va_W} {i b : Nat} {e0 e : va_E} {d : TD} (hT : Typed k tg TB ws) (hi : ws[i]? = some (b, e0)) (hb : TB[tg b]? = some d) (he : tcOK k tg d e) : Typed k tg TB (ws.set i (b, e)) := by
  have hil : i < ws.length := (List.getElem?_eq_some_iff.mp hi).1
  refine ⟨fun j q hj => ?_, fun a ha => ?_⟩
  · by_cases hij : i = j
    · subst hij
      rw [List.getElem?_set_self hil] at hj
      cases hj
      exact ⟨d, hb, he⟩
    · rw [List.getElem?_set_ne hij] at hj
      exact hT.1 j q hj
  · obtain ⟨j, e1, hj⟩ := hT.2 a ha
    by_cases hij : i = j
    · subst hij
      rw [hi] at hj
      cases hj
      exact ⟨i, e, by rw [List.getElem?_set_self hil]⟩
    · exact ⟨j, e1, by rw [List.getElem?_set_ne hij]; exact hj⟩
theorem Typed.putG {k : Nat → ClassId} {tg : Nat → Nat} {TB : List TD} {ws : va_W} {i b : Nat} {e0 e : va_E} {d d0 : TD} (hT : Typed k tg TB ws) (hD : va_D (fun _ => True) ws) (hi : ws[i]? = some (b, e0)) (hb : TB[tg b]? = some d0) (hu : ∀ a, tg a = tg b → a = b) (he : tcOK k tg d e) : Typed k tg (TB.set (tg b) d) (ws.set i (b, e)) := by
  have hil : i < ws.length := (List.getElem?_eq_some_iff.mp hi).1
  have hbl : tg b < TB.length := (List.getElem?_eq_some_iff.mp hb).1
  refine ⟨fun j q hj => ?_, fun a ha => ?_⟩
  · by_cases hij : i = j
    · subst hij
      rw [List.getElem?_set_self hil] at hj
      cases hj
      exact ⟨d, by rw [List.getElem?_set_self hbl], he⟩
    · rw [List.getElem?_set_ne hij] at hj
      obtain ⟨d1, h1, h2⟩ := hT.1 j q hj
      have hne : tg b ≠ tg q.1 := fun h => by
        have hq := hu q.1 h.symm
        exact hij (hD.1 i j _ _ hi hj hq.symm)
      exact ⟨d1, by rw [List.getElem?_set_ne hne]; exact h1, h2⟩
  · rw [List.length_set] at ha
    obtain ⟨j, e1, hj⟩ := hT.2 a ha
    by_cases hij : i = j
    · subst hij
      rw [hi] at hj
      cases hj
      exact ⟨i, e, by rw [List.getElem?_set_self hil]⟩
    · exact ⟨j, e1, by rw [List.getElem?_set_ne hij]; exact hj⟩
theorem va_Dset {ws : va_W} {i b : Nat} {e0 e : va_E} (hD : va_D (fun _ => True) ws) (hi : ws[i]? = some (b, e0)) : va_D (fun _ => True) (ws.set i (b, e)) := hD.set hi
/-- a class, as every row asks for it -/
def CLS (ci : Nat) (C : String) (T : u_T) (N : Nat) (ty0 : Nat → FieldType) : Prop := vwCl[ci]? = some (C, T, N) ∧ (∀ w ∈ u_ws C T N, w ∈ wsL_law) ∧ (∀ k, k < N → parseFieldDescriptor (T k).2.2.1 = some (ty0 k)) ∧ (∀ a, a < N → ∀ b, b < N → a ≠ b → (T a).2.1 ≠ (T b).2.1)
/-- a text of n signs: its cells stand untouched -/
def sO (A : Nat → Prop) (U : State) (H : Heap) (a v n : Nat) (w : List Int) : Prop := ∃ f : Nat → Int32, va_O "java/lang/String" a A U H ∧ va_OF "java/lang/String" "coder" "B" (.int 0) a A U H ∧ va_OF "java/lang/String" "value" "[B" (.ref v) a A U H ∧ va_T .byte v n (fun j => .int (f j)) A U H ∧ ∀ j, j < n → (f j).toInt = w.getD j 0
theorem sO.moved {A : Nat → Prop} {u U : State} {H : Heap} {a v n : Nat} {w : List Int} (hvm : u.vm.Alike U.vm) (h : sO A u H a v n w) : sO A U H a v n w := by
  obtain ⟨f, h1, h2, h3, h4, h5⟩ := h
  exact ⟨f, h1.moved hvm, h2.moved hvm, h3.moved hvm, h4.moved hvm, h5⟩
theorem sO.kept {A : Nat → Prop} {U : State} {H H1 : Heap} {a v n : Nat} {w : List Int} (h : sO A U H a v n w) (hq : ∀ a : Nat, a < H.size → ¬ A a → H1[a]? = H[a]?) : sO A U H1 a v n w := by
  obtain ⟨f, h1, h2, h3, h4, h5⟩ := h
  exact ⟨f, h1.kept hq, h2.kept hq, h3.kept hq, h4.kept hq, h5⟩
theorem sO.narrow {A B : Nat → Prop} {U : State} {H : Heap} {a v n : Nat} {w : List Int} (h : sO A U H a v n w) (hAB : ∀ q, B q → A q) : sO B U H a v n w := by
  obtain ⟨f, h1, h2, h3, h4, h5⟩ := h
  exact ⟨f, h1.narrow hAB, h2.narrow hAB, h3.narrow hAB, h4.narrow hAB, h5⟩
def sitesTx : List (String × Nat × String × Nat) := [(RX3, 58, "reach", 5), (RX3, 90, "mouth", 5), (RX3, 105, "sink", 4), (RX3, 68, "right", 5), (RX3, 161, "age", 3), (RX3, 130, "vol", 3), (RX3, 133, "back", 4), (RX3, 73, "store", 5), (RX3, 78, "wet", 3), (RX4, 63, "reach", 5), (RX4, 69, "mouth", 5), (RX4, 80, "sink", 4), (RX4, 81, "right", 5), (RX4, 95, "age", 3), (RX4, 102, "vol", 3), (RX4, 107, "back", 4), (RX4, 115, "store", 5), (RX4, 55, "wet", 3), (RX7, 370, "reach", 5), (RX7, 376, "mouth", 5), (RX7, 381, "sink", 4), (RX7, 390, "right", 5), (RX7, 383, "age", 3), (RX7, 395, "vol", 3), (RX7, 388, "back", 4), (RX7, 401, "store", 5), (RX7, 415, "wet", 3), (RX7, 445, " mouth", 6), (RX7, 450, " sink", 5), (RX7, 452, " age", 4), (RX7, 454, " vol", 4), (RX7, 456, " back", 5)]
/-- their letters -/
def txW : List (List Int) := [[114, 101, 97, 99, 104], [109, 111, 117, 116, 104], [115, 105, 110, 107], [114, 105, 103, 104, 116], [97, 103, 101], [118, 111, 108], [98, 97, 99, 107], [115, 116, 111, 114, 101], [119, 101, 116], [114, 101, 97, 99, 104], [109, 111, 117, 116, 104], [115, 105, 110, 107], [114, 105, 103, 104, 116], [97, 103, 101], [118, 111, 108], [98, 97, 99, 107], [115, 116, 111, 114, 101], [119, 101, 116], [114, 101, 97, 99, 104], [109, 111, 117, 116, 104], [115, 105, 110, 107], [114, 105, 103, 104, 116], [97, 103, 101], [118, 111, 108], [98, 97, 99, 107], [115, 116, 111, 114, 101], [119, 101, 116], [32, 109, 111, 117, 116, 104], [32, 115, 105, 110, 107], [32, 97, 103, 101], [32, 118, 111, 108], [32, 98, 97, 99, 107]]
/-- what each place of the pools names; the JDK's own numbers -/
def SO (E : Ev) (sz : Nat) (U : State) : Prop := (∀ (i : Nat) (x : String × Nat × String × Nat), sitesTx[i]? = some x → vk_R x.1 x.2.1 x.2.2.1 (eX E i) U ∧ sO (eA E sz) U U.heap (eX E i) (eV E i) x.2.2.2 (txW.getD i [])) ∧ va_Z "java/lang/String" "COMPACT_STRINGS" "Z" (.int 1) (eA E sz) U U.heap ∧ va_Zq "jdk/internal/util/Preconditions" "SIOOBE_FORMATTER" "Ljava/util/function/BiFunction;" (eA E sz) U U.heap
theorem SO.call {E : Ev} {s U : State} {H : Heap} {locs : List Loc} (h : SO E s.heap.size s) (hS : va_S (eA E s.heap.size) s.heap H locs) (hU : U.heap = H) (hW : s.WarmedH U.vm) : SO E H.size U := by
  obtain ⟨h1, h2, h3⟩ := h
  have hn := eA_mono (E := E) hS.1
  rw [← hU] at hn hS ⊢
  exact ⟨fun i x hx => ⟨(h1 i x hx).1.warm hW, (((h1 i x hx).2.kept hS.2.1).narrow hn).moved hW.alike⟩, ((h2.kept hS.2.1).narrow hn).moved hW.alike, ((h3.kept hS.2.1).narrow hn).moved hW.alike⟩
theorem SO.calling {E : Ev} {sz : Nat} {U : State} {g : JFrame} {mk : MethodId} {a : Array Value} (h : SO E sz U) : SO E sz (U.calling g mk a) := by
  obtain ⟨h1, h2, h3⟩ := h
  have hA : U.vm.Alike (U.calling g mk a).vm := Vm.Alike.refl U.vm
  exact ⟨fun i x hx => ⟨(h1 i x hx).1.same rfl, (h1 i x hx).2.moved hA⟩, h2.moved hA, h3.moved hA⟩
/-- a contract's start -/
def TPw (E : Ev) (pre : Heap → Prop) (sz : Nat) (U : State) : Prop := U.heap.size = sz ∧ pre U.heap ∧ va_K (eG E) vwCl (tyk (eK E)) U ∧ nst U ∧ SO E sz U
def TcV (E : Ev) (y : MethodName) (cc : ByteArray) (n : Nat) (rm : Room) (av : List Value) (pre : Heap → Prop) (post : Heap → Prop) : Prop := ∀ sz : Nat, Met (eL E) y (wm y cc n none) rm (va_Pc av (TPw E pre sz)) (va_Qv post (fun H t => t.heap = H) (eA E sz)) rm.cells rm.slots (eA E sz)
def TcI (E : Ev) (y : MethodName) (cc : ByteArray) (n : Nat) (r : FieldType) (rm : Room) (av : List Value) (pre : Heap → Prop) (post : Int32 → Heap → Prop) : Prop := ∀ sz : Nat, Met (eL E) y (wm y cc n (some r)) rm (va_Pc av (TPw E pre sz)) (va_Qi post (fun H t => t.heap = H) (eA E sz)) rm.cells rm.slots (eA E sz)
def TcL (E : Ev) (y : MethodName) (cc : ByteArray) (n : Nat) (rm : Room) (av : List Value) (pre : Heap → Prop) (post : Int64 → Heap → Prop) : Prop := ∀ sz : Nat, Met (eL E) y (wm y cc n (some .long)) rm (va_Pc av (TPw E pre sz)) (va_Ql post (fun H t => t.heap = H) (eA E sz)) rm.cells rm.slots (eA E sz)
theorem tpw_blind {E : Ev} {pre : Heap → Prop} {sz : Nat} {av : List Value} : FrameBlind (va_Pc av (TPw E pre sz)) := fun a U g mk q => by
  obtain ⟨q0, q1, qP, qK, qN, qS⟩ := q
  exact ⟨q0, q1, qP, va_K.moved (u := U) (U := U.calling g mk a) (Vm.Alike.refl U.vm) qK, nst.same (s := U) (U := U.calling g mk a) rfl qN, qS.calling⟩
section TBASE
variable {p : Program} {e : Env} {R : Room} {s : State} {m : MethodId} {args : Array Value} {below : List Frame} {meth : Method} {c : Code} {H : Heap} {locs : List Loc} {cells slots : Nat} {Q : State → Prop}
variable {E : Ev} {TB : List TD}
theorem teV {y : MethodName} {cc : ByteArray} {n : Nat} {rm : Room} {av : List Value} {pre : Heap → Prop} {post : Heap → Prop} (hy : plainName y.cls = true) (hle : (lg_sl av).length ≤ n)
    (hb : ∀ (p : Program) (e : Env) (s : State) (m : MethodId) (below : List Frame) (meth : Method) (c : Code) (ls : Array Slot), Fx p s m meth c av.toArray y cc n none → va_K (eG E) vwCl (tyk (eK E)) s → nst s → SO E s.heap.size s → pre s.heap → va_S (eA E s.heap.size) s.heap s.heap [] → lv_has ls n (lv_args 0 av) →
      W p (eL E) e rm s m av.toArray below meth c s.heap [] 0 0 (MQ below (va_Qv post (fun H t => t.heap = H) (eA E s.heap.size)) av.toArray s rm.cells rm.slots (eA E s.heap.size)) (F0 m 0 ls [])) : TcV E y cc n rm av pre post := by
  intro sz
  refine Met.ofW (cc := cc) (maxL := n) (ret := none) hy rfl ?_
  intro p e s m args below meth c s₁ B hml hv
  obtain ⟨rfl, hsz, hP, hK, hN, hO⟩ := hv
  subst hsz
  have hts := atoms_spec (ws := wm y cc n none) B.pre
  rw [lg_entry_eq]
  exact hb p e s m below meth c _ ⟨B.exec, B.bytes, B.returns, hml, findClass_of_methodNamed B.named, B.notSynchronized, fun w hw => hts w (List.mem_cons_of_mem _ hw), (name_of_methodNamed B.named B.method).1⟩ hK hN hO hP va_S.rf (lv_entry av hle)
theorem teI {y : MethodName} {cc : ByteArray} {n : Nat} {r : FieldType} {rm : Room} {av : List Value} {pre : Heap → Prop} {post : Int32 → Heap → Prop} (hy : plainName y.cls = true) (hle : (lg_sl av).length ≤ n)
    (hb : ∀ (p : Program) (e : Env) (s : State) (m : MethodId) (below : List Frame) (meth : Method) (c : Code) (ls : Array Slot), Fx p s m meth c av.toArray y cc n (some r) → va_K (eG E) vwCl (tyk (eK E)) s → nst s → SO E s.heap.size s → pre s.heap → va_S (eA E s.heap.size) s.heap s.heap [] → lv_has ls n (lv_args 0 av) →
      W p (eL E) e rm s m av.toArray below meth c s.heap [] 0 0 (MQ below (va_Qi post (fun H t => t.heap = H) (eA E s.heap.size)) av.toArray s rm.cells rm.slots (eA E s.heap.size)) (F0 m 0 ls [])) : TcI E y cc n r rm av pre post := by
  intro sz
  refine Met.ofW (cc := cc) (maxL := n) (ret := (some r)) hy rfl ?_
  intro p e s m args below meth c s₁ B hml hv
  obtain ⟨rfl, hsz, hP, hK, hN, hO⟩ := hv
  subst hsz
  have hts := atoms_spec (ws := wm y cc n (some r)) B.pre
  rw [lg_entry_eq]
  exact hb p e s m below meth c _ ⟨B.exec, B.bytes, B.returns, hml, findClass_of_methodNamed B.named, B.notSynchronized, fun w hw => hts w (List.mem_cons_of_mem _ hw), (name_of_methodNamed B.named B.method).1⟩ hK hN hO hP va_S.rf (lv_entry av hle)
theorem teL {y : MethodName} {cc : ByteArray} {n : Nat} {rm : Room} {av : List Value} {pre : Heap → Prop} {post : Int64 → Heap → Prop} (hy : plainName y.cls = true) (hle : (lg_sl av).length ≤ n)
    (hb : ∀ (p : Program) (e : Env) (s : State) (m : MethodId) (below : List Frame) (meth : Method) (c : Code) (ls : Array Slot), Fx p s m meth c av.toArray y cc n (some .long) → va_K (eG E) vwCl (tyk (eK E)) s → nst s → SO E s.heap.size s → pre s.heap → va_S (eA E s.heap.size) s.heap s.heap [] → lv_has ls n (lv_args 0 av) →
      W p (eL E) e rm s m av.toArray below meth c s.heap [] 0 0 (MQ below (va_Ql post (fun H t => t.heap = H) (eA E s.heap.size)) av.toArray s rm.cells rm.slots (eA E s.heap.size)) (F0 m 0 ls [])) : TcL E y cc n rm av pre post := by
  intro sz
  refine Met.ofW (cc := cc) (maxL := n) (ret := (some .long)) hy rfl ?_
  intro p e s m args below meth c s₁ B hml hv
  obtain ⟨rfl, hsz, hP, hK, hN, hO⟩ := hv
  subst hsz
  have hts := atoms_spec (ws := wm y cc n (some .long)) B.pre
  rw [lg_entry_eq]
  exact hb p e s m below meth c _ ⟨B.exec, B.bytes, B.returns, hml, findClass_of_methodNamed B.named, B.notSynchronized, fun w hw => hts w (List.mem_cons_of_mem _ hw), (name_of_methodNamed B.named B.method).1⟩ hK hN hO hP va_S.rf (lv_entry av hle)
variable {cc : ByteArray} {pc : Nat} {ls : Array Slot} {rest : List Value} {y0 : MethodName} {nL : Nat} {r0 : Option FieldType}
theorem txV {post : Heap → Prop} (F : Fx p s m meth c args y0 cc nL none) (hS : va_S (eA E s.heap.size) s.heap H locs) (hdg : decode cc pc = .ok (.return_, 1)) (hq : post H) :
    W p (eL E) e R s m args below meth c H locs cells slots (MQ below (va_Qv post (fun H t => t.heap = H) (eA E s.heap.size)) args s cells slots (eA E s.heap.size)) (F0 m pc ls []) := by
  obtain ⟨hx, hb, hr, -, -, hlk, -, -⟩ := F
  exact W.vret hx hb hr (fun t ht hW => ⟨⟨H, rfl, hq, ht⟩, hS.F ht⟩) hS.2.2 hdg
theorem txI {r : FieldType} {v : Int32} {post : Int32 → Heap → Prop} (F : Fx p s m meth c args y0 cc nL (some r)) (hS : va_S (eA E s.heap.size) s.heap H locs) (hdg : decode cc pc = .ok (.ireturn, 1)) (hnr : narrow r (.int v) = .int v) (hq : post v H) :
    W p (eL E) e R s m args below meth c H locs cells slots (MQ below (va_Qi post (fun H t => t.heap = H) (eA E s.heap.size)) args s cells slots (eA E s.heap.size)) (F0 m pc ls [.int v]) := by
  obtain ⟨hx, hb, hr, -, -, hlk, -, -⟩ := F
  exact W.zret hx hb hr hnr (fun t ht hW => ⟨⟨v, H, rfl, hq, ht⟩, hS.F ht⟩) hS.2.2 hdg
theorem txL {v : Int64} {post : Int64 → Heap → Prop} (F : Fx p s m meth c args y0 cc nL (some .long)) (hS : va_S (eA E s.heap.size) s.heap H locs) (hdg : decode cc pc = .ok (.lreturn, 1)) (hq : post v H) :
    W p (eL E) e R s m args below meth c H locs cells slots (MQ below (va_Ql post (fun H t => t.heap = H) (eA E s.heap.size)) args s cells slots (eA E s.heap.size)) (F0 m pc ls [.long v]) := by
  obtain ⟨hx, hb, hr, -, -, hlk, -, -⟩ := F
  exact W.lret hx hb hr (fun t ht hW => ⟨⟨v, H, rfl, hq, ht⟩, hS.F ht⟩) hS.2.2 hdg
theorem tRecv {b ci : Nat} {fds : List FD} {C : String} {T : u_T} {N : Nat} {ty0 : Nat → FieldType} (hK : va_K (eG E) vwCl (tyk (eK E)) s) (hH : TH E TB H) (hb : TB[eT E b]? = some (.inl (ci, fds))) (hc : CLS ci C T N ty0) : ∃ cell : Cell, H[b]? = some cell ∧ cell.vm.isStatics = false ∧ s.vm.findClass C = some cell.cls := by
  obtain ⟨ws, i, e, -, hP, hD, hT, hi, fs, rfl, -, -⟩ := hH.at hb
  exact va_recv hK hP hc.1 hi
variable {y : MethodName} {bytes : ByteArray} {maxL index b : Nat} {r : FieldType} {rmy : Room} {As st : List Value} {pre : Heap → Prop} {host : String}
theorem tVv {post : Heap → Prop} (F : Fx p s m meth c args y0 cc nL r0) (hK : va_K (eG E) vwCl (tyk (eK E)) s) (hN : nst s) (hO : SO E s.heap.size s) (hM : TcV E y bytes maxL rmy (.ref b :: As) pre post) (hy : MV y bytes maxL none As.length) (hl : Cond.methodLink y0.cls index y ∈ wsL_law)
    (hroom : rmy.frames + 1 ≤ R.frames ∧ 8 + (maxL + 11) + rmy.locals ≤ R.locals) (hcs : cells + rmy.cells ≤ R.cells ∧ slots + rmy.slots ≤ R.slots) (hpre : pre H) (hS : va_S (eA E s.heap.size) s.heap H locs) (hrc : ∃ cell : Cell, H[b]? = some cell ∧ cell.vm.isStatics = false ∧ s.vm.findClass y.cls = some cell.cls)
    (hst : st = As.reverse ++ .ref b :: rest) (hsz : ls.size = nL) (hrest : (rest.map fun v => v.category).sum ≤ 8) (hdg : decode cc pc = .ok (.invokevirtual index, 3))
    (kk : ∀ (H1 : Heap) (locs1 : List Loc), post H1 → va_S (eA E s.heap.size) s.heap H1 locs1 → W p (eL E) e R s m args below meth c H1 locs1 (cells + rmy.cells) (slots + rmy.slots) Q (F0 m (pc + 3) ls (rest))) :
    W p (eL E) e R s m args below meth c H locs cells slots Q (F0 m pc ls st) := by
  obtain ⟨hx, hb, hr, hml, hown, hlk, hw, -⟩ := F
  obtain ⟨k1, k2, k3, k4, k5, k6, k7⟩ := hy
  subst hst
  have hFc := eA_mono (E := E) hS.1
  have cw : CallW R s args y0.cls y.cls index y bytes maxL none (wm y bytes maxL none) rmy rmy.cells rmy.slots As.length := ⟨callB_of As.length hw (wm_good k1) rfl rfl rfl (hw _ k4) (hw _ hl) ⟨k5, k6, k7⟩ hroom, hw _ k2, hw _ k3⟩
  refine va_callv (va_runV (nL := nL) ⟨hx, hb, hml, hown, hw⟩ (hM H.size) cw ⟨tpw_blind, hrc, fun U hU hW => ⟨rfl, by rw [hU], by rw [hU]; exact hpre, va_K.moved hW.alike hK, hN.warm hW, hO.call hS hU hW⟩⟩ rfl rfl hsz rfl (by simpa [JFrame.monitorRoom] using hrest) hdg hcs) hS (fun q _ h => hFc q h) hFc (fun u t H1 locs1 ht hvm hq hB hz1 hk1 hS1 => ?_)
  have e1 : u = H1 := hB.symm.trans ht
  subst e1
  exact kk _ locs1 hq hS1
theorem tVi {post : Int32 → Heap → Prop} (F : Fx p s m meth c args y0 cc nL r0) (hK : va_K (eG E) vwCl (tyk (eK E)) s) (hN : nst s) (hO : SO E s.heap.size s) (hM : TcI E y bytes maxL r rmy (.ref b :: As) pre post) (hy : MV y bytes maxL (some r) As.length) (hl : Cond.methodLink y0.cls index y ∈ wsL_law)
    (hroom : rmy.frames + 1 ≤ R.frames ∧ 8 + (maxL + 11) + rmy.locals ≤ R.locals) (hcs : cells + rmy.cells ≤ R.cells ∧ slots + rmy.slots ≤ R.slots) (hpre : pre H) (hS : va_S (eA E s.heap.size) s.heap H locs) (hrc : ∃ cell : Cell, H[b]? = some cell ∧ cell.vm.isStatics = false ∧ s.vm.findClass y.cls = some cell.cls)
    (hst : st = As.reverse ++ .ref b :: rest) (hsz : ls.size = nL) (hrest : (rest.map fun v => v.category).sum ≤ 8) (hdg : decode cc pc = .ok (.invokevirtual index, 3))
    (kk : ∀ (v : Int32) (H1 : Heap) (locs1 : List Loc), post v H1 → va_S (eA E s.heap.size) s.heap H1 locs1 → W p (eL E) e R s m args below meth c H1 locs1 (cells + rmy.cells) (slots + rmy.slots) Q (F0 m (pc + 3) ls (.int v :: rest))) :
    W p (eL E) e R s m args below meth c H locs cells slots Q (F0 m pc ls st) := by
  obtain ⟨hx, hb, hr, hml, hown, hlk, hw, -⟩ := F
  obtain ⟨k1, k2, k3, k4, k5, k6, k7⟩ := hy
  subst hst
  have hFc := eA_mono (E := E) hS.1
  have cw : CallW R s args y0.cls y.cls index y bytes maxL (some r) (wm y bytes maxL (some r)) rmy rmy.cells rmy.slots As.length := ⟨callB_of As.length hw (wm_good k1) rfl rfl rfl (hw _ k4) (hw _ hl) ⟨k5, k6, k7⟩ hroom, hw _ k2, hw _ k3⟩
  refine va_calli (va_runV (nL := nL) ⟨hx, hb, hml, hown, hw⟩ (hM H.size) cw ⟨tpw_blind, hrc, fun U hU hW => ⟨rfl, by rw [hU], by rw [hU]; exact hpre, va_K.moved hW.alike hK, hN.warm hW, hO.call hS hU hW⟩⟩ rfl rfl hsz rfl (by simpa [JFrame.monitorRoom] using hrest) hdg hcs) hS (fun q _ h => hFc q h) hFc (fun v u t H1 locs1 ht hvm hq hB hz1 hk1 hS1 => ?_)
  have e1 : u = H1 := hB.symm.trans ht
  subst e1
  exact kk v _ locs1 hq hS1
theorem tVl {post : Int64 → Heap → Prop} (F : Fx p s m meth c args y0 cc nL r0) (hK : va_K (eG E) vwCl (tyk (eK E)) s) (hN : nst s) (hO : SO E s.heap.size s) (hM : TcL E y bytes maxL rmy (.ref b :: As) pre post) (hy : MV y bytes maxL (some .long) As.length) (hl : Cond.methodLink y0.cls index y ∈ wsL_law)
    (hroom : rmy.frames + 1 ≤ R.frames ∧ 8 + (maxL + 11) + rmy.locals ≤ R.locals) (hcs : cells + rmy.cells ≤ R.cells ∧ slots + rmy.slots ≤ R.slots) (hpre : pre H) (hS : va_S (eA E s.heap.size) s.heap H locs) (hrc : ∃ cell : Cell, H[b]? = some cell ∧ cell.vm.isStatics = false ∧ s.vm.findClass y.cls = some cell.cls)
    (hst : st = As.reverse ++ .ref b :: rest) (hsz : ls.size = nL) (hrest : (rest.map fun v => v.category).sum ≤ 8) (hdg : decode cc pc = .ok (.invokevirtual index, 3))
    (kk : ∀ (v : Int64) (H1 : Heap) (locs1 : List Loc), post v H1 → va_S (eA E s.heap.size) s.heap H1 locs1 → W p (eL E) e R s m args below meth c H1 locs1 (cells + rmy.cells) (slots + rmy.slots) Q (F0 m (pc + 3) ls (.long v :: rest))) :
    W p (eL E) e R s m args below meth c H locs cells slots Q (F0 m pc ls st) := by
  obtain ⟨hx, hb, hr, hml, hown, hlk, hw, -⟩ := F
  obtain ⟨k1, k2, k3, k4, k5, k6, k7⟩ := hy
  subst hst
  have hFc := eA_mono (E := E) hS.1
  have cw : CallW R s args y0.cls y.cls index y bytes maxL (some .long) (wm y bytes maxL (some .long)) rmy rmy.cells rmy.slots As.length := ⟨callB_of As.length hw (wm_good k1) rfl rfl rfl (hw _ k4) (hw _ hl) ⟨k5, k6, k7⟩ hroom, hw _ k2, hw _ k3⟩
  refine va_calll (va_runV (nL := nL) ⟨hx, hb, hml, hown, hw⟩ (hM H.size) cw ⟨tpw_blind, hrc, fun U hU hW => ⟨rfl, by rw [hU], by rw [hU]; exact hpre, va_K.moved hW.alike hK, hN.warm hW, hO.call hS hU hW⟩⟩ rfl rfl hsz rfl (by simpa [JFrame.monitorRoom] using hrest) hdg hcs) hS (fun q _ h => hFc q h) hFc (fun v u t H1 locs1 ht hvm hq hB hz1 hk1 hS1 => ?_)
  have e1 : u = H1 := hB.symm.trans ht
  subst e1
  exact kk v _ locs1 hq hS1
theorem tSv {post : Heap → Prop} (F : Fx p s m meth c args y0 cc nL r0) (hK : va_K (eG E) vwCl (tyk (eK E)) s) (hN : nst s) (hO : SO E s.heap.size s) (hM : TcV E y bytes maxL rmy As pre post) (hy : MS y bytes maxL none As.length) (hl : Cond.methodLink y0.cls index y ∈ wsL_law)
    (hroom : rmy.frames + 1 ≤ R.frames ∧ 8 + (maxL + 11) + rmy.locals ≤ R.locals) (hcs : cells + rmy.cells ≤ R.cells ∧ slots + rmy.slots ≤ R.slots) (hpre : pre H) (hS : va_S (eA E s.heap.size) s.heap H locs)
    (hst : st = As.reverse ++ rest) (hsz : ls.size = nL) (hrest : (rest.map fun v => v.category).sum ≤ 8) (hdg : decode cc pc = .ok (.invokestatic index, 3))
    (kk : ∀ (H1 : Heap) (locs1 : List Loc), post H1 → va_S (eA E s.heap.size) s.heap H1 locs1 → W p (eL E) e R s m args below meth c H1 locs1 (cells + rmy.cells) (slots + rmy.slots) Q (F0 m (pc + 3) ls (rest))) :
    W p (eL E) e R s m args below meth c H locs cells slots Q (F0 m pc ls st) := by
  obtain ⟨hx, hb, hr, hml, hown, hlk, hw, -⟩ := F
  obtain ⟨k1, k2, k4, k5, k6, k7⟩ := hy
  subst hst
  have hFc := eA_mono (E := E) hS.1
  have cw : CallB R s args y0.cls index y bytes maxL none (wm y bytes maxL none) rmy rmy.cells rmy.slots As.length ∧ (Cond.static y).before args s = true := ⟨callB_of As.length hw (wm_good k1) rfl rfl rfl (hw _ k4) (hw _ hl) ⟨k5, k6, k7⟩ hroom, hw _ k2⟩
  refine va_callv (va_runS (nL := nL) ⟨hx, hb, hml, hown, hw⟩ (hM H.size) cw ⟨tpw_blind, fun U hU hW => ⟨rfl, by rw [hU], by rw [hU]; exact hpre, va_K.moved hW.alike hK, hN.warm hW, hO.call hS hU hW⟩⟩ rfl rfl hsz rfl (by simpa [JFrame.monitorRoom] using hrest) hdg hcs) hS (fun q _ h => hFc q h) hFc (fun u t H1 locs1 ht hvm hq hB hz1 hk1 hS1 => ?_)
  have e1 : u = H1 := hB.symm.trans ht
  subst e1
  exact kk _ locs1 hq hS1
theorem tSi {post : Int32 → Heap → Prop} (F : Fx p s m meth c args y0 cc nL r0) (hK : va_K (eG E) vwCl (tyk (eK E)) s) (hN : nst s) (hO : SO E s.heap.size s) (hM : TcI E y bytes maxL r rmy As pre post) (hy : MS y bytes maxL (some r) As.length) (hl : Cond.methodLink y0.cls index y ∈ wsL_law)
    (hroom : rmy.frames + 1 ≤ R.frames ∧ 8 + (maxL + 11) + rmy.locals ≤ R.locals) (hcs : cells + rmy.cells ≤ R.cells ∧ slots + rmy.slots ≤ R.slots) (hpre : pre H) (hS : va_S (eA E s.heap.size) s.heap H locs)
    (hst : st = As.reverse ++ rest) (hsz : ls.size = nL) (hrest : (rest.map fun v => v.category).sum ≤ 8) (hdg : decode cc pc = .ok (.invokestatic index, 3))
    (kk : ∀ (v : Int32) (H1 : Heap) (locs1 : List Loc), post v H1 → va_S (eA E s.heap.size) s.heap H1 locs1 → W p (eL E) e R s m args below meth c H1 locs1 (cells + rmy.cells) (slots + rmy.slots) Q (F0 m (pc + 3) ls (.int v :: rest))) :
    W p (eL E) e R s m args below meth c H locs cells slots Q (F0 m pc ls st) := by
  obtain ⟨hx, hb, hr, hml, hown, hlk, hw, -⟩ := F
  obtain ⟨k1, k2, k4, k5, k6, k7⟩ := hy
  subst hst
  have hFc := eA_mono (E := E) hS.1
  have cw : CallB R s args y0.cls index y bytes maxL (some r) (wm y bytes maxL (some r)) rmy rmy.cells rmy.slots As.length ∧ (Cond.static y).before args s = true := ⟨callB_of As.length hw (wm_good k1) rfl rfl rfl (hw _ k4) (hw _ hl) ⟨k5, k6, k7⟩ hroom, hw _ k2⟩
  refine va_calli (va_runS (nL := nL) ⟨hx, hb, hml, hown, hw⟩ (hM H.size) cw ⟨tpw_blind, fun U hU hW => ⟨rfl, by rw [hU], by rw [hU]; exact hpre, va_K.moved hW.alike hK, hN.warm hW, hO.call hS hU hW⟩⟩ rfl rfl hsz rfl (by simpa [JFrame.monitorRoom] using hrest) hdg hcs) hS (fun q _ h => hFc q h) hFc (fun v u t H1 locs1 ht hvm hq hB hz1 hk1 hS1 => ?_)
  have e1 : u = H1 := hB.symm.trans ht
  subst e1
  exact kk v _ locs1 hq hS1
theorem tSl {post : Int64 → Heap → Prop} (F : Fx p s m meth c args y0 cc nL r0) (hK : va_K (eG E) vwCl (tyk (eK E)) s) (hN : nst s) (hO : SO E s.heap.size s) (hM : TcL E y bytes maxL rmy As pre post) (hy : MS y bytes maxL (some .long) As.length) (hl : Cond.methodLink y0.cls index y ∈ wsL_law)
    (hroom : rmy.frames + 1 ≤ R.frames ∧ 8 + (maxL + 11) + rmy.locals ≤ R.locals) (hcs : cells + rmy.cells ≤ R.cells ∧ slots + rmy.slots ≤ R.slots) (hpre : pre H) (hS : va_S (eA E s.heap.size) s.heap H locs)
    (hst : st = As.reverse ++ rest) (hsz : ls.size = nL) (hrest : (rest.map fun v => v.category).sum ≤ 8) (hdg : decode cc pc = .ok (.invokestatic index, 3))
    (kk : ∀ (v : Int64) (H1 : Heap) (locs1 : List Loc), post v H1 → va_S (eA E s.heap.size) s.heap H1 locs1 → W p (eL E) e R s m args below meth c H1 locs1 (cells + rmy.cells) (slots + rmy.slots) Q (F0 m (pc + 3) ls (.long v :: rest))) :
    W p (eL E) e R s m args below meth c H locs cells slots Q (F0 m pc ls st) := by
  obtain ⟨hx, hb, hr, hml, hown, hlk, hw, -⟩ := F
  obtain ⟨k1, k2, k4, k5, k6, k7⟩ := hy
  subst hst
  have hFc := eA_mono (E := E) hS.1
  have cw : CallB R s args y0.cls index y bytes maxL (some .long) (wm y bytes maxL (some .long)) rmy rmy.cells rmy.slots As.length ∧ (Cond.static y).before args s = true := ⟨callB_of As.length hw (wm_good k1) rfl rfl rfl (hw _ k4) (hw _ hl) ⟨k5, k6, k7⟩ hroom, hw _ k2⟩
  refine va_calll (va_runS (nL := nL) ⟨hx, hb, hml, hown, hw⟩ (hM H.size) cw ⟨tpw_blind, fun U hU hW => ⟨rfl, by rw [hU], by rw [hU]; exact hpre, va_K.moved hW.alike hK, hN.warm hW, hO.call hS hU hW⟩⟩ rfl rfl hsz rfl (by simpa [JFrame.monitorRoom] using hrest) hdg hcs) hS (fun q _ h => hFc q h) hFc (fun v u t H1 locs1 ht hvm hq hB hz1 hk1 hS1 => ?_)
  have e1 : u = H1 := hB.symm.trans ht
  subst e1
  exact kk v _ locs1 hq hS1
theorem tNv {post : Heap → Prop} (F : Fx p s m meth c args y0 cc nL r0) (hK : va_K (eG E) vwCl (tyk (eK E)) s) (hN : nst s) (hO : SO E s.heap.size s) (hM : TcV E y bytes maxL rmy As pre post) (hy : MS y bytes maxL none As.length) (hl : va_Nw (.methodLinkNest y0.cls index y host) s)
    (hroom : rmy.frames + 1 ≤ R.frames ∧ 8 + (maxL + 11) + rmy.locals ≤ R.locals) (hcs : cells + rmy.cells ≤ R.cells ∧ slots + rmy.slots ≤ R.slots) (hpre : pre H) (hS : va_S (eA E s.heap.size) s.heap H locs)
    (hst : st = As.reverse ++ rest) (hsz : ls.size = nL) (hrest : (rest.map fun v => v.category).sum ≤ 8) (hdg : decode cc pc = .ok (.invokestatic index, 3))
    (kk : ∀ (H1 : Heap) (locs1 : List Loc), post H1 → va_S (eA E s.heap.size) s.heap H1 locs1 → W p (eL E) e R s m args below meth c H1 locs1 (cells + rmy.cells) (slots + rmy.slots) Q (F0 m (pc + 3) ls (rest))) :
    W p (eL E) e R s m args below meth c H locs cells slots Q (F0 m pc ls st) := by
  obtain ⟨hx, hb, hr, hml, hown, hlk, hw, -⟩ := F
  obtain ⟨k1, k2, k4, k5, k6, k7⟩ := hy
  subst hst
  have hFc := eA_mono (E := E) hS.1
  have cw : va_CN R s args y0.cls index y host bytes maxL none (wm y bytes maxL none) rmy rmy.cells rmy.slots As.length ∧ (Cond.static y).before args s = true ∧ True := ⟨va_cnB As.length hw (wm_good k1) rfl rfl rfl hl (hw _ k4) ⟨k5, k6, k7⟩ hroom, hw _ k2, trivial⟩
  refine va_callv (va_runSN (nL := nL) ⟨hx, hb, hml, hown, hw⟩ (hM H.size) cw ⟨tpw_blind, fun U hU hW => ⟨rfl, by rw [hU], by rw [hU]; exact hpre, va_K.moved hW.alike hK, hN.warm hW, hO.call hS hU hW⟩⟩ rfl rfl hsz rfl (by simpa [JFrame.monitorRoom] using hrest) hdg hcs) hS (fun q _ h => hFc q h) hFc (fun u t H1 locs1 ht hvm hq hB hz1 hk1 hS1 => ?_)
  have e1 : u = H1 := hB.symm.trans ht
  subst e1
  exact kk _ locs1 hq hS1
variable {C : String} {T : u_T} {N ci j q : Nat} {ty0 : Nat → FieldType} {fds : List FD} {lo hi : Int} {l : List Nat} {d : TD}
theorem tGetI (F : Fx p s m meth c args y0 cc nL r0) (hK : va_K (eG E) vwCl (tyk (eK E)) s) (hH : TH E TB H) (hb : TB[eT E b]? = some (.inl (ci, fds))) (hj : fds[j]? = some (.inl (lo, hi))) (hc : CLS ci C T N ty0) (hjN : j < N) (hlink : Cond.fieldLink y0.cls index (T j).1 (T j).2.1 (T j).2.2.1 ∈ wsL_law) (hdg : decode cc pc = .ok (.getfield index, 3))
    (kk : ∀ x : Int32, lo ≤ x.toInt ∧ x.toInt ≤ hi → W p (eL E) e R s m args below meth c H locs cells slots Q (F0 m (pc + 3) ls (.int x :: rest))) : W p (eL E) e R s m args below meth c H locs cells slots Q (F0 m pc ls (.ref b :: rest)) := by
  obtain ⟨hx, hb0, hr, hml, hown, hlk, hw, -⟩ := F
  obtain ⟨ws, i, e1, -, hP, hD, hT, hi, fs, rfl, hlen, hfs⟩ := hH.at hb
  obtain ⟨v, hv, x, rfl, h1, h2⟩ := hfs j _ hj
  exact va_get hx hb0 hw hc.2.1 hown hK hP i hi hc.1 j hjN (hw _ hlink) (fun _ h9 => h9) hv hdg (kk x ⟨h1, h2⟩)
theorem tGetR (F : Fx p s m meth c args y0 cc nL r0) (hK : va_K (eG E) vwCl (tyk (eK E)) s) (hH : TH E TB H) (hb : TB[eT E b]? = some (.inl (ci, fds))) (hj : fds[j]? = some (.inr l)) (hl : ∀ t ∈ l, TB[t]? = some d) (hc : CLS ci C T N ty0) (hjN : j < N) (hlink : Cond.fieldLink y0.cls index (T j).1 (T j).2.1 (T j).2.2.1 ∈ wsL_law) (hdg : decode cc pc = .ok (.getfield index, 3))
    (kk : ∀ q : Nat, eT E q ∈ l → TB[eT E q]? = some d → W p (eL E) e R s m args below meth c H locs cells slots Q (F0 m (pc + 3) ls (.ref q :: rest))) : W p (eL E) e R s m args below meth c H locs cells slots Q (F0 m pc ls (.ref b :: rest)) := by
  obtain ⟨hx, hb0, hr, hml, hown, hlk, hw, -⟩ := F
  obtain ⟨ws, i, e1, -, hP, hD, hT, hi, fs, rfl, hlen, hfs⟩ := hH.at hb
  obtain ⟨v, hv, q, rfl, h1⟩ := hfs j _ hj
  exact va_get hx hb0 hw hc.2.1 hown hK hP i hi hc.1 j hjN (hw _ hlink) (fun _ h9 => h9) hv hdg (kk q h1 (hl _ h1))
theorem fds_set {k : Nat → ClassId} {tg : Nat → Nat} {fs : List Value} {v : Value} {fd : FD} (hlen : fs.length = fds.length) (hfs : ∀ (j : Nat) (fd : FD), fds[j]? = some fd → ∃ v, fs[j]? = some v ∧ fdOK tg fd v) (hjl : j < fs.length) (hv : fdOK tg fd v) : tcOK k tg (.inl (ci, fds.set j fd)) (.inr (ci, fs.set j v)) := by
  refine ⟨fs.set j v, rfl, by simp [hlen], fun i fd' hi => ?_⟩
  by_cases hij : j = i
  · subst hij
    rw [List.getElem?_set_self (by rw [← hlen]; exact hjl)] at hi
    cases hi
    exact ⟨v, by rw [List.getElem?_set_self hjl], hv⟩
  · rw [List.getElem?_set_ne hij] at hi
    obtain ⟨w, h1, h2⟩ := hfs i fd' hi
    exact ⟨w, by rw [List.getElem?_set_ne hij]; exact h1, h2⟩
theorem fds_same {fd : FD} (h : fds[j]? = some fd) : fds.set j fd = fds := by
  apply List.ext_getElem?
  intro i
  by_cases hij : j = i
  · subst hij
    rw [List.getElem?_set_self (List.getElem?_eq_some_iff.mp h).1, h]
  · rw [List.getElem?_set_ne hij]
/-- a field is written: the kinds' table as it was -/
theorem tPut {v : Value} {fd : FD} {ty : FieldType} (F : Fx p s m meth c args y0 cc nL r0) (hK : va_K (eG E) vwCl (tyk (eK E)) s) (hH : TH E TB H) (hS : va_S (eA E s.heap.size) s.heap H locs) (hb : TB[eT E b]? = some (.inl (ci, fds))) (hj : fds[j]? = some fd) (hv : fdOK (eT E) fd v) (hc : CLS ci C T N ty0) (hjN : j < N) (hlink : Cond.fieldLink y0.cls index (T j).1 (T j).2.1 (T j).2.2.1 ∈ wsL_law) (hfin : (T j).2.2.2 = false) (hty : ty0 j = ty) (hn : narrow ty v = v) (hfit : fits ty v = true) (hdg : decode cc pc = .ok (.putfield index, 3))
    (kk : ∀ (H1 : Heap) (locs1 : List Loc), TH E TB H1 → va_S (eA E s.heap.size) s.heap H1 locs1 → W p (eL E) e R s m args below meth c H1 locs1 cells slots Q (F0 m (pc + 3) ls rest)) : W p (eL E) e R s m args below meth c H locs cells slots Q (F0 m pc ls (v :: .ref b :: rest)) := by
  obtain ⟨hx, hb0, hr, hml, hown, hlk, hw, -⟩ := F
  obtain ⟨ws, i, e1, hlen0, hP, hD, hT, hi, fs, rfl, hlen, hfs⟩ := hH.at hb
  have hjl : j < fs.length := by rw [hlen]; exact (List.getElem?_eq_some_iff.mp hj).1
  refine va_put hx hb0 hw hc.2.1 ty0 hc.2.2.1 hc.2.2.2 hown hK hP (Typed.dom hlen0.1 hT hD s.heap.size) hS i hi hc.1 j hjN (hw _ hlink) (fun _ h9 => h9) hfin ((hc.2.2.1 j hjN).trans (congrArg some hty)) hn hfit hjl hdg (fun H1 locs1 hP1 hD1 hS1 => kk H1 locs1 ⟨hlen0, _, hP1, va_Dset hD hi, hT.put hi hb ?_⟩ hS1)
  have := fds_set (k := eK E) (tg := eT E) (ci := ci) hlen hfs hjl hv
  rw [fds_same hj] at this
  exact this
/-- a field of the one cell of its kind is written: the table tells of it anew -/
theorem tPutG {v : Value} {fd fd0 : FD} {ty : FieldType} {t : Nat} {TB1 : List TD} (F : Fx p s m meth c args y0 cc nL r0) (hK : va_K (eG E) vwCl (tyk (eK E)) s) (hH : TH E TB H) (hS : va_S (eA E s.heap.size) s.heap H locs) (ht : eT E b = t) (h24 : 24 ≤ t) (hb : TB[t]? = some (.inl (ci, fds))) (hj : fds[j]? = some fd0) (hv : fdOK (eT E) fd v) (h1 : TB.set t (.inl (ci, fds.set j fd)) = TB1) (hc : CLS ci C T N ty0) (hjN : j < N) (hlink : Cond.fieldLink y0.cls index (T j).1 (T j).2.1 (T j).2.2.1 ∈ wsL_law) (hfin : (T j).2.2.2 = false) (hty : ty0 j = ty) (hn : narrow ty v = v) (hfit : fits ty v = true) (hdg : decode cc pc = .ok (.putfield index, 3))
    (kk : ∀ (H1 : Heap) (locs1 : List Loc), TH E TB1 H1 → va_S (eA E s.heap.size) s.heap H1 locs1 → W p (eL E) e R s m args below meth c H1 locs1 cells slots Q (F0 m (pc + 3) ls rest)) : W p (eL E) e R s m args below meth c H locs cells slots Q (F0 m pc ls (v :: .ref b :: rest)) := by
  obtain ⟨hx, hb0, hr, hml, hown, hlk, hw, -⟩ := F
  subst ht
  obtain ⟨ws, i, e1, hlen0, hP, hD, hT, hi, fs, rfl, hlen, hfs⟩ := hH.at hb
  have hjl : j < fs.length := by rw [hlen]; exact (List.getElem?_eq_some_iff.mp hj).1
  refine va_put hx hb0 hw hc.2.1 ty0 hc.2.2.1 hc.2.2.2 hown hK hP (Typed.dom hlen0.1 hT hD s.heap.size) hS i hi hc.1 j hjN (hw _ hlink) (fun _ h9 => h9) hfin ((hc.2.2.1 j hjN).trans (congrArg some hty)) hn hfit hjl hdg (fun H1 locs1 hP1 hD1 hS1 => kk H1 locs1 ?_ hS1)
  rw [← h1]
  exact ⟨⟨by rw [List.length_set]; exact hlen0.1, hlen0.2⟩, _, hP1, va_Dset hD hi, hT.putG hD hi hb (fun a ha => (hlen0.2 b a h24 (by rw [← hlen0.1]; exact (List.getElem?_eq_some_iff.mp hb).1) ha.symm).symm) (fds_set hlen hfs hjl hv)⟩
theorem vinT {i : Int32} {n : Nat} (h : 0 ≤ i.toInt ∧ i.toInt < n) : vp_in i n := by
  intro q
  rcases q with q | q
  · have := Int32.lt_iff_toInt_lt.mp q
    rw [show (0 : Int32).toInt = 0 by decide] at this
    omega
  · have : i.toNatClampNeg = i.toInt.toNat := rfl
    omega
/-- every place of a row lies between -/
def ivP (n : Nat) (lo hi : Int) : (Nat → Int32) → Prop := fun f => ∀ j, j < n → lo ≤ (f j).toInt ∧ (f j).toInt ≤ hi
variable {i x : Int32} {n : Nat} {P : (Nat → Int32) → Prop}
theorem ivP_upd {f : Nat → Int32} {w : Nat} (h : ivP n lo hi f) (hx : lo ≤ x.toInt ∧ x.toInt ≤ hi) : ivP n lo hi (upd f w x) := by
  intro a ha
  by_cases e : a = w
  · subst e; simpa [upd] using hx
  · have : upd f w x a = f a := by simp [upd, e]
    rw [this]; exact h a ha
theorem cl_lt (h : 0 ≤ i.toInt ∧ i.toInt < n) : i.toNatClampNeg < n := by
  have : i.toNatClampNeg = i.toInt.toNat := rfl
  omega
theorem tIald (F : Fx p s m meth c args y0 cc nL r0) (hK : va_K (eG E) vwCl (tyk (eK E)) s) (hH : TH E TB H) (hb : TB[eT E b]? = some (.inr (.inl (0, n, P)))) (hix : 0 ≤ i.toInt ∧ i.toInt < n) (hdg : decode cc pc = .ok (.iaload, 1))
    (kk : ∀ f, P f → W p (eL E) e R s m args below meth c H locs cells slots Q (F0 m (pc + 1) ls (.int (f i.toNatClampNeg) :: rest))) : W p (eL E) e R s m args below meth c H locs cells slots Q (F0 m pc ls (.int i :: .ref b :: rest)) := by
  obtain ⟨hx, hb0, -⟩ := F
  obtain ⟨ws, w, e1, -, hP, hD, hT, hw, f, rfl, hf⟩ := hH.at hb
  exact va_iald hx hb0 hK hP w 0 hw rfl (vinT hix) hdg (kk f hf)
theorem tIaldB (F : Fx p s m meth c args y0 cc nL r0) (hK : va_K (eG E) vwCl (tyk (eK E)) s) (hH : TH E TB H) (hb : TB[eT E b]? = some (.inr (.inl (0, n, ivP n lo hi)))) (hix : 0 ≤ i.toInt ∧ i.toInt < n) (hdg : decode cc pc = .ok (.iaload, 1))
    (kk : ∀ x : Int32, lo ≤ x.toInt ∧ x.toInt ≤ hi → W p (eL E) e R s m args below meth c H locs cells slots Q (F0 m (pc + 1) ls (.int x :: rest))) : W p (eL E) e R s m args below meth c H locs cells slots Q (F0 m pc ls (.int i :: .ref b :: rest)) :=
  tIald F hK hH hb hix hdg (fun f hf => kk _ (hf _ (cl_lt hix)))
theorem tBaldB (F : Fx p s m meth c args y0 cc nL r0) (hK : va_K (eG E) vwCl (tyk (eK E)) s) (hH : TH E TB H) (hb : TB[eT E b]? = some (.inr (.inl (1, n, ivP n lo hi)))) (hix : 0 ≤ i.toInt ∧ i.toInt < n) (hdg : decode cc pc = .ok (.baload, 1))
    (kk : ∀ x : Int32, lo ≤ x.toInt ∧ x.toInt ≤ hi → W p (eL E) e R s m args below meth c H locs cells slots Q (F0 m (pc + 1) ls (.int x :: rest))) : W p (eL E) e R s m args below meth c H locs cells slots Q (F0 m pc ls (.int i :: .ref b :: rest)) := by
  obtain ⟨hx, hb0, -⟩ := F
  obtain ⟨ws, w, e1, -, hP, hD, hT, hw, f, rfl, hf⟩ := hH.at hb
  exact va_bald hx hb0 hK hP w 1 hw rfl (vinT hix) hdg (kk _ (hf _ (cl_lt hix)))
theorem tZaldB (F : Fx p s m meth c args y0 cc nL r0) (hK : va_K (eG E) vwCl (tyk (eK E)) s) (hH : TH E TB H) (hb : TB[eT E b]? = some (.inr (.inl (3, n, ivP n lo hi)))) (hix : 0 ≤ i.toInt ∧ i.toInt < n) (hdg : decode cc pc = .ok (.baload, 1))
    (kk : ∀ x : Int32, lo ≤ x.toInt ∧ x.toInt ≤ hi → W p (eL E) e R s m args below meth c H locs cells slots Q (F0 m (pc + 1) ls (.int x :: rest))) : W p (eL E) e R s m args below meth c H locs cells slots Q (F0 m pc ls (.int i :: .ref b :: rest)) := by
  obtain ⟨hx, hb0, -⟩ := F
  obtain ⟨ws, w, e1, -, hP, hD, hT, hw, f, rfl, hf⟩ := hH.at hb
  exact va_zald hx hb0 hK hP w 3 hw rfl (vinT hix) hdg (kk _ (hf _ (cl_lt hix)))
theorem tLald (F : Fx p s m meth c args y0 cc nL r0) (hK : va_K (eG E) vwCl (tyk (eK E)) s) (hH : TH E TB H) (hb : TB[eT E b]? = some (.inr (.inr (.inl n)))) (hix : 0 ≤ i.toInt ∧ i.toInt < n) (hdg : decode cc pc = .ok (.laload, 1))
    (kk : ∀ x : Int64, W p (eL E) e R s m args below meth c H locs cells slots Q (F0 m (pc + 1) ls (.long x :: rest))) : W p (eL E) e R s m args below meth c H locs cells slots Q (F0 m pc ls (.int i :: .ref b :: rest)) := by
  obtain ⟨hx, hb0, -⟩ := F
  obtain ⟨ws, w, e1, -, hP, hD, hT, hw, f, rfl⟩ := hH.at hb
  exact va_lald hx hb0 hK hP w 2 hw rfl (vinT hix) hdg (kk _)
theorem tLast {x : Int64} (F : Fx p s m meth c args y0 cc nL r0) (hK : va_K (eG E) vwCl (tyk (eK E)) s) (hH : TH E TB H) (hS : va_S (eA E s.heap.size) s.heap H locs) (hb : TB[eT E b]? = some (.inr (.inr (.inl n)))) (hix : 0 ≤ i.toInt ∧ i.toInt < n) (hdg : decode cc pc = .ok (.lastore, 1))
    (kk : ∀ (H1 : Heap) (locs1 : List Loc), TH E TB H1 → va_S (eA E s.heap.size) s.heap H1 locs1 → W p (eL E) e R s m args below meth c H1 locs1 cells slots Q (F0 m (pc + 1) ls rest)) : W p (eL E) e R s m args below meth c H locs cells slots Q (F0 m pc ls (.long x :: .int i :: .ref b :: rest)) := by
  obtain ⟨hx, hb0, -⟩ := F
  obtain ⟨ws, w, e1, hlen0, hP, hD, hT, hw, f, rfl⟩ := hH.at hb
  exact va_last hx hb0 hK hP (Typed.dom hlen0.1 hT hD s.heap.size) hS w 2 hw rfl (vinT hix) hdg (fun H1 locs1 hP1 hD1 hS1 => kk H1 locs1 ⟨hlen0, _, hP1, va_Dset hD hw, hT.put hw hb ⟨_, rfl⟩⟩ hS1)
theorem tAald {k0 : Nat} {C0 : String} {lf : Nat → List Nat} (F : Fx p s m meth c args y0 cc nL r0) (hK : va_K (eG E) vwCl (tyk (eK E)) s) (hH : TH E TB H) (hb : TB[eT E b]? = some (.inr (.inr (.inr (k0, n, lf))))) (hk0 : (tyk (eK E))[k0]? = some (eK E k0, .object C0)) (hl : ∀ t ∈ lf i.toNatClampNeg, TB[t]? = some d) (hix : 0 ≤ i.toInt ∧ i.toInt < n) (hdg : decode cc pc = .ok (.aaload, 1))
    (kk : ∀ q : Nat, eT E q ∈ lf i.toNatClampNeg → TB[eT E q]? = some d → W p (eL E) e R s m args below meth c H locs cells slots Q (F0 m (pc + 1) ls (.ref q :: rest))) : W p (eL E) e R s m args below meth c H locs cells slots Q (F0 m pc ls (.int i :: .ref b :: rest)) := by
  obtain ⟨hx, hb0, -⟩ := F
  obtain ⟨ws, w, e1, -, hP, hD, hT, hw, f, rfl, hf⟩ := hH.at hb
  obtain ⟨q, h1, h2⟩ := hf _ (cl_lt hix)
  refine va_aldq hx hb0 hK hP w k0 hw hk0 (vinT hix) hdg ?_
  rw [h1]
  exact kk q h2 (hl _ h2)
theorem tAald0 {k0 : Nat} {C0 : String} {lf : Nat → List Nat} (F : Fx p s m meth c args y0 cc nL r0) (hK : va_K (eG E) vwCl (tyk (eK E)) s) (hH : TH E TB H) (hb : TB[eT E b]? = some (.inr (.inr (.inr (k0, n, lf))))) (hk0 : (tyk (eK E))[k0]? = some (eK E k0, .object C0)) (hix : 0 ≤ i.toInt ∧ i.toInt < n) (hdg : decode cc pc = .ok (.aaload, 1))
    (kk : ∀ q : Nat, eT E q ∈ lf i.toNatClampNeg → W p (eL E) e R s m args below meth c H locs cells slots Q (F0 m (pc + 1) ls (.ref q :: rest))) : W p (eL E) e R s m args below meth c H locs cells slots Q (F0 m pc ls (.int i :: .ref b :: rest)) := by
  obtain ⟨hx, hb0, -⟩ := F
  obtain ⟨ws, w, e1, -, hP, hD, hT, hw, f, rfl, hf⟩ := hH.at hb
  obtain ⟨q, h1, h2⟩ := hf _ (cl_lt hix)
  refine va_aldq hx hb0 hK hP w k0 hw hk0 (vinT hix) hdg ?_
  rw [h1]
  exact kk q h2
theorem tAlen {k0 : Nat} {ty : FieldType} {v : Int32} (F : Fx p s m meth c args y0 cc nL r0) (hK : va_K (eG E) vwCl (tyk (eK E)) s) (hH : TH E TB H) (hb : TB[eT E b]? = some (.inr (.inl (k0, n, P)))) (hk0 : (tyk (eK E))[k0]? = some (eK E k0, ty)) (hv : Int32.ofNat n = v) (hdg : decode cc pc = .ok (.arraylength, 1))
    (kk : W p (eL E) e R s m args below meth c H locs cells slots Q (F0 m (pc + 1) ls (.int v :: rest))) : W p (eL E) e R s m args below meth c H locs cells slots Q (F0 m pc ls (.ref b :: rest)) := by
  obtain ⟨hx, hb0, -⟩ := F
  obtain ⟨ws, w, e1, -, hP, hD, hT, hw, f, rfl, hf⟩ := hH.at hb
  exact va_alen hx hb0 hK hP w k0 hw hk0 hv hdg kk
/-- a place of a row of ints is written: its own words hold of it still -/
theorem tIast (F : Fx p s m meth c args y0 cc nL r0) (hK : va_K (eG E) vwCl (tyk (eK E)) s) (hH : TH E TB H) (hS : va_S (eA E s.heap.size) s.heap H locs) (hb : TB[eT E b]? = some (.inr (.inl (0, n, P)))) (hix : 0 ≤ i.toInt ∧ i.toInt < n) (hP1 : ∀ f, P f → P (upd f i.toNatClampNeg x)) (hdg : decode cc pc = .ok (.iastore, 1))
    (kk : ∀ (H1 : Heap) (locs1 : List Loc), TH E TB H1 → va_S (eA E s.heap.size) s.heap H1 locs1 → W p (eL E) e R s m args below meth c H1 locs1 cells slots Q (F0 m (pc + 1) ls rest)) : W p (eL E) e R s m args below meth c H locs cells slots Q (F0 m pc ls (.int x :: .int i :: .ref b :: rest)) := by
  obtain ⟨hx, hb0, -⟩ := F
  obtain ⟨ws, w, e1, hlen0, hP, hD, hT, hw, f, rfl, hf⟩ := hH.at hb
  exact va_iast hx hb0 hK hP (Typed.dom hlen0.1 hT hD s.heap.size) hS w 0 hw rfl (vinT hix) hdg (fun H1 locs1 hP2 hD1 hS1 => kk H1 locs1 ⟨hlen0, _, hP2, va_Dset hD hw, hT.put hw hb ⟨_, rfl, hP1 f hf⟩⟩ hS1)
theorem tIastG {P1 : (Nat → Int32) → Prop} {t : Nat} {TB1 : List TD} (F : Fx p s m meth c args y0 cc nL r0) (hK : va_K (eG E) vwCl (tyk (eK E)) s) (hH : TH E TB H) (hS : va_S (eA E s.heap.size) s.heap H locs) (ht : eT E b = t) (h24 : 24 ≤ t) (hb : TB[t]? = some (.inr (.inl (0, n, P)))) (hix : 0 ≤ i.toInt ∧ i.toInt < n) (hP1 : ∀ f, P f → P1 (upd f i.toNatClampNeg x)) (h1 : TB.set t (.inr (.inl (0, n, P1))) = TB1) (hdg : decode cc pc = .ok (.iastore, 1))
    (kk : ∀ (H1 : Heap) (locs1 : List Loc), TH E TB1 H1 → va_S (eA E s.heap.size) s.heap H1 locs1 → W p (eL E) e R s m args below meth c H1 locs1 cells slots Q (F0 m (pc + 1) ls rest)) : W p (eL E) e R s m args below meth c H locs cells slots Q (F0 m pc ls (.int x :: .int i :: .ref b :: rest)) := by
  obtain ⟨hx, hb0, -⟩ := F
  subst ht
  obtain ⟨ws, w, e1, hlen0, hP, hD, hT, hw, f, rfl, hf⟩ := hH.at hb
  refine va_iast hx hb0 hK hP (Typed.dom hlen0.1 hT hD s.heap.size) hS w 0 hw rfl (vinT hix) hdg (fun H1 locs1 hP2 hD1 hS1 => kk H1 locs1 ?_ hS1)
  rw [← h1]
  exact ⟨⟨by rw [List.length_set]; exact hlen0.1, hlen0.2⟩, _, hP2, va_Dset hD hw, hT.putG hD hw hb (fun a ha => (hlen0.2 b a h24 (by rw [← hlen0.1]; exact (List.getElem?_eq_some_iff.mp hb).1) ha.symm).symm) ⟨_, rfl, hP1 f hf⟩⟩
theorem tIastB (F : Fx p s m meth c args y0 cc nL r0) (hK : va_K (eG E) vwCl (tyk (eK E)) s) (hH : TH E TB H) (hS : va_S (eA E s.heap.size) s.heap H locs) (hb : TB[eT E b]? = some (.inr (.inl (0, n, ivP n lo hi)))) (hix : 0 ≤ i.toInt ∧ i.toInt < n) (hx : lo ≤ x.toInt ∧ x.toInt ≤ hi) (hdg : decode cc pc = .ok (.iastore, 1))
    (kk : ∀ (H1 : Heap) (locs1 : List Loc), TH E TB H1 → va_S (eA E s.heap.size) s.heap H1 locs1 → W p (eL E) e R s m args below meth c H1 locs1 cells slots Q (F0 m (pc + 1) ls rest)) : W p (eL E) e R s m args below meth c H locs cells slots Q (F0 m pc ls (.int x :: .int i :: .ref b :: rest)) :=
  tIast F hK hH hS hb hix (fun f hf => ivP_upd hf hx) hdg kk
theorem tBastB (F : Fx p s m meth c args y0 cc nL r0) (hK : va_K (eG E) vwCl (tyk (eK E)) s) (hH : TH E TB H) (hS : va_S (eA E s.heap.size) s.heap H locs) (hb : TB[eT E b]? = some (.inr (.inl (1, n, ivP n lo hi)))) (hix : 0 ≤ i.toInt ∧ i.toInt < n) (hx : lo ≤ (vp_nar .byte x).toInt ∧ (vp_nar .byte x).toInt ≤ hi) (hdg : decode cc pc = .ok (.bastore, 1))
    (kk : ∀ (H1 : Heap) (locs1 : List Loc), TH E TB H1 → va_S (eA E s.heap.size) s.heap H1 locs1 → W p (eL E) e R s m args below meth c H1 locs1 cells slots Q (F0 m (pc + 1) ls rest)) : W p (eL E) e R s m args below meth c H locs cells slots Q (F0 m pc ls (.int x :: .int i :: .ref b :: rest)) := by
  obtain ⟨hx0, hb0, -⟩ := F
  obtain ⟨ws, w, e1, hlen0, hP, hD, hT, hw, f, rfl, hf⟩ := hH.at hb
  exact va_bast hx0 hb0 hK hP (Typed.dom hlen0.1 hT hD s.heap.size) hS w 1 hw rfl (vinT hix) hdg (fun H1 locs1 hP2 hD1 hS1 => kk H1 locs1 ⟨hlen0, _, hP2, va_Dset hD hw, hT.put hw hb ⟨_, rfl, ivP_upd hf hx⟩⟩ hS1)
theorem tZastB (F : Fx p s m meth c args y0 cc nL r0) (hK : va_K (eG E) vwCl (tyk (eK E)) s) (hH : TH E TB H) (hS : va_S (eA E s.heap.size) s.heap H locs) (hb : TB[eT E b]? = some (.inr (.inl (3, n, ivP n lo hi)))) (hix : 0 ≤ i.toInt ∧ i.toInt < n) (hx : lo ≤ (vp_nar .boolean x).toInt ∧ (vp_nar .boolean x).toInt ≤ hi) (hdg : decode cc pc = .ok (.bastore, 1))
    (kk : ∀ (H1 : Heap) (locs1 : List Loc), TH E TB H1 → va_S (eA E s.heap.size) s.heap H1 locs1 → W p (eL E) e R s m args below meth c H1 locs1 cells slots Q (F0 m (pc + 1) ls rest)) : W p (eL E) e R s m args below meth c H locs cells slots Q (F0 m pc ls (.int x :: .int i :: .ref b :: rest)) := by
  obtain ⟨hx0, hb0, -⟩ := F
  obtain ⟨ws, w, e1, hlen0, hP, hD, hT, hw, f, rfl, hf⟩ := hH.at hb
  exact va_zast hx0 hb0 hK hP (Typed.dom hlen0.1 hT hD s.heap.size) hS w 3 hw rfl (vinT hix) hdg (fun H1 locs1 hP2 hD1 hS1 => kk H1 locs1 ⟨hlen0, _, hP2, va_Dset hD hw, hT.put hw hb ⟨_, rfl, ivP_upd hf hx⟩⟩ hS1)
/-- a row is copied over another of its kind, from the first place on -/
theorem ivP_cpy {f g : Nat → Int32} {k0 : Nat} (hf : ivP n lo hi f) (hg : ivP n lo hi g) (hk : k0 ≤ n) : ivP n lo hi (va_cpy f g 0 0 k0) := by
  intro a ha
  unfold va_cpy
  split
  · rename_i h
    simp only [Nat.sub_zero, Nat.zero_add]
    exact hf _ (by omega)
  · exact hg a ha
theorem tCopyI {k0 : Nat} {ty : FieldType} {q1 : Nat} (F : Fx p s m meth c args y0 cc nL r0) (hl1 : Cond.methodLink y0.cls index arraycopyName ∈ wsL_law) (hl2 : Cond.native arraycopyName ∈ wsL_law) (hl3 : Cond.static arraycopyName ∈ wsL_law) (hl4 : Cond.initialized "java/lang/System" ∈ wsL_law) (hK : va_K (eG E) vwCl (tyk (eK E)) s) (hH : TH E TB H) (hS : va_S (eA E s.heap.size) s.heap H locs) (hb : TB[eT E b]? = some (.inr (.inl (0, n, ivP n lo hi)))) (hq : TB[eT E q1]? = some (.inr (.inl (0, n, ivP n lo hi)))) (hx : ¬ x < 0) (hxn : x.toNatClampNeg ≤ n) (hsz : ls.size = nL) (hframes : 1 ≤ R.frames) (hlocals : (rest.map fun v => v.category).sum + (nativeFrameWords "java/lang/System" "arraycopy" 5 + 11) ≤ R.locals) (hdg : decode cc pc = .ok (.invokestatic index, 3))
    (kk : ∀ (H1 : Heap) (locs1 : List Loc), TH E TB H1 → va_S (eA E s.heap.size) s.heap H1 locs1 → W p (eL E) e R s m args below meth c H1 locs1 cells slots Q (F0 m (pc + 3) ls rest)) : W p (eL E) e R s m args below meth c H locs cells slots Q (F0 m pc ls (.int x :: .int 0 :: .ref q1 :: .int 0 :: .ref b :: rest)) := by
  obtain ⟨hx0, hb0, hr, hml, hown, hlk, hw, -⟩ := F
  obtain ⟨ws, w, e1, hlen0, hP, hD, hT, hw1, f, rfl, hf⟩ := hH.at hb
  obtain ⟨w2, e2, hw2⟩ := hT.2 q1 (List.getElem?_eq_some_iff.mp hq).1
  obtain ⟨d2, h4, h5⟩ := hT.1 w2 _ hw2
  have hd2 : d2 = .inr (.inl (0, n, ivP n lo hi)) := Option.some.inj (h4.symm.trans hq)
  subst hd2
  obtain ⟨g, rfl, hg⟩ := h5
  have z0 : (0 : Int32).toNatClampNeg = 0 := by decide
  refine va_copyi hx0 hb0 (hml.trans hsz.symm) hown (hw _ hl1) (hw _ hl2) (hw _ hl3) (hw _ hl4) hK hP (Typed.dom hlen0.1 hT hD s.heap.size) hS w w2 0 0 hw1 hw2 rfl rfl rfl (by decide) (by decide) hx (by rw [z0]; show 0 + x.toNatClampNeg ≤ n; omega) (by rw [z0]; show 0 + x.toNatClampNeg ≤ n; omega) (fun _ _ => rfl) hframes hlocals hdg (fun H1 locs1 hP2 hD1 hS1 => kk H1 locs1 ⟨hlen0, _, hP2, va_Dset hD hw2, hT.put hw2 hq ⟨_, rfl, ?_⟩⟩ hS1)
  rw [z0]
  exact ivP_cpy hf hg hxn
theorem tCopyG {P0 P1 : (Nat → Int32) → Prop} {t : Nat} {TB1 : List TD} {q1 : Nat} (F : Fx p s m meth c args y0 cc nL r0) (hl1 : Cond.methodLink y0.cls index arraycopyName ∈ wsL_law) (hl2 : Cond.native arraycopyName ∈ wsL_law) (hl3 : Cond.static arraycopyName ∈ wsL_law) (hl4 : Cond.initialized "java/lang/System" ∈ wsL_law) (hK : va_K (eG E) vwCl (tyk (eK E)) s) (hH : TH E TB H) (hS : va_S (eA E s.heap.size) s.heap H locs) (hb : TB[eT E b]? = some (.inr (.inl (0, n, P)))) (ht : eT E q1 = t) (h24 : 24 ≤ t) (hq : TB[t]? = some (.inr (.inl (0, n, P0)))) (hP1 : ∀ f g, P f → P0 g → P1 (va_cpy f g 0 0 x.toNatClampNeg)) (h1 : TB.set t (.inr (.inl (0, n, P1))) = TB1) (hx : ¬ x < 0) (hxn : x.toNatClampNeg ≤ n) (hsz : ls.size = nL) (hframes : 1 ≤ R.frames) (hlocals : (rest.map fun v => v.category).sum + (nativeFrameWords "java/lang/System" "arraycopy" 5 + 11) ≤ R.locals) (hdg : decode cc pc = .ok (.invokestatic index, 3))
    (kk : ∀ (H1 : Heap) (locs1 : List Loc), TH E TB1 H1 → va_S (eA E s.heap.size) s.heap H1 locs1 → W p (eL E) e R s m args below meth c H1 locs1 cells slots Q (F0 m (pc + 3) ls rest)) : W p (eL E) e R s m args below meth c H locs cells slots Q (F0 m pc ls (.int x :: .int 0 :: .ref q1 :: .int 0 :: .ref b :: rest)) := by
  obtain ⟨hx0, hb0, hr, hml, hown, hlk, hw, -⟩ := F
  subst ht
  obtain ⟨ws, w, e1, hlen0, hP, hD, hT, hw1, f, rfl, hf⟩ := hH.at hb
  obtain ⟨w2, e2, hw2⟩ := hT.2 q1 (List.getElem?_eq_some_iff.mp hq).1
  obtain ⟨d2, h4, h5⟩ := hT.1 w2 _ hw2
  have hd2 : d2 = .inr (.inl (0, n, P0)) := Option.some.inj (h4.symm.trans hq)
  subst hd2
  obtain ⟨g, rfl, hg⟩ := h5
  have z0 : (0 : Int32).toNatClampNeg = 0 := by decide
  refine va_copyi hx0 hb0 (hml.trans hsz.symm) hown (hw _ hl1) (hw _ hl2) (hw _ hl3) (hw _ hl4) hK hP (Typed.dom hlen0.1 hT hD s.heap.size) hS w w2 0 0 hw1 hw2 rfl rfl rfl (by decide) (by decide) hx (by rw [z0]; show 0 + x.toNatClampNeg ≤ n; omega) (by rw [z0]; show 0 + x.toNatClampNeg ≤ n; omega) (fun _ _ => rfl) hframes hlocals hdg (fun H1 locs1 hP2 hD1 hS1 => kk H1 locs1 ?_ hS1)
  rw [← h1]
  refine ⟨⟨by rw [List.length_set]; exact hlen0.1, hlen0.2⟩, _, hP2, va_Dset hD hw2, hT.putG hD hw2 hq (fun a ha => (hlen0.2 q1 a h24 (by rw [← hlen0.1]; exact (List.getElem?_eq_some_iff.mp hq).1) ha.symm).symm) ⟨_, rfl, ?_⟩⟩
  have h9 := hP1 f g hf hg
  rw [z0]
  exact h9
theorem tCopyL {q1 : Nat} (F : Fx p s m meth c args y0 cc nL r0) (hl1 : Cond.methodLink y0.cls index arraycopyName ∈ wsL_law) (hl2 : Cond.native arraycopyName ∈ wsL_law) (hl3 : Cond.static arraycopyName ∈ wsL_law) (hl4 : Cond.initialized "java/lang/System" ∈ wsL_law) (hK : va_K (eG E) vwCl (tyk (eK E)) s) (hH : TH E TB H) (hS : va_S (eA E s.heap.size) s.heap H locs) (hb : TB[eT E b]? = some (.inr (.inr (.inl n)))) (hq : TB[eT E q1]? = some (.inr (.inr (.inl n)))) (hx : ¬ x < 0) (hxn : x.toNatClampNeg ≤ n) (hsz : ls.size = nL) (hframes : 1 ≤ R.frames) (hlocals : (rest.map fun v => v.category).sum + (nativeFrameWords "java/lang/System" "arraycopy" 5 + 11) ≤ R.locals) (hdg : decode cc pc = .ok (.invokestatic index, 3))
    (kk : ∀ (H1 : Heap) (locs1 : List Loc), TH E TB H1 → va_S (eA E s.heap.size) s.heap H1 locs1 → W p (eL E) e R s m args below meth c H1 locs1 cells slots Q (F0 m (pc + 3) ls rest)) : W p (eL E) e R s m args below meth c H locs cells slots Q (F0 m pc ls (.int x :: .int 0 :: .ref q1 :: .int 0 :: .ref b :: rest)) := by
  obtain ⟨hx0, hb0, hr, hml, hown, hlk, hw, -⟩ := F
  obtain ⟨ws, w, e1, hlen0, hP, hD, hT, hw1, f, rfl⟩ := hH.at hb
  obtain ⟨w2, e2, hw2⟩ := hT.2 q1 (List.getElem?_eq_some_iff.mp hq).1
  obtain ⟨d2, h4, h5⟩ := hT.1 w2 _ hw2
  have hd2 : d2 = .inr (.inr (.inl n)) := Option.some.inj (h4.symm.trans hq)
  subst hd2
  obtain ⟨g, rfl⟩ := h5
  have z0 : (0 : Int32).toNatClampNeg = 0 := by decide
  exact va_copyl hx0 hb0 (hml.trans hsz.symm) hown (hw _ hl1) (hw _ hl2) (hw _ hl3) (hw _ hl4) hK hP (Typed.dom hlen0.1 hT hD s.heap.size) hS w w2 2 2 hw1 hw2 rfl rfl rfl (by decide) (by decide) hx (by rw [z0]; show 0 + x.toNatClampNeg ≤ n; omega) (by rw [z0]; show 0 + x.toNatClampNeg ≤ n; omega) (fun _ _ => rfl) hframes hlocals hdg (fun H1 locs1 hP2 hD1 hS1 => kk H1 locs1 ⟨hlen0, _, hP2, va_Dset hD hw2, hT.put hw2 hq ⟨_, rfl⟩⟩ hS1)
theorem all1 {t : Nat} (h : TB[t]? = some d) : ∀ t' ∈ [t], TB[t']? = some d := fun t' ht => by rw [List.mem_singleton.mp ht]; exact h
theorem all2 {t u : Nat} (h : TB[t]? = some d) (h2 : TB[u]? = some d) : ∀ t' ∈ [t, u], TB[t']? = some d := fun t' ht => by
  rcases List.mem_cons.mp ht with e | ht
  · rw [e]; exact h
  · rw [List.mem_singleton.mp ht]; exact h2
theorem tyb (hm : eT E q ∈ l) (hl : ∀ t ∈ l, TB[t]? = some d) : TB[eT E q]? = some d := hl _ hm
theorem TH.loose {t : Nat} {d0 d1 : TD} {TB1 : List TD} (h : TH E TB H) (h0 : TB[t]? = some d0) (hd : ∀ e, tcOK (eK E) (eT E) d0 e → tcOK (eK E) (eT E) d1 e) (h1 : TB.set t d1 = TB1) : TH E TB1 H := by
  obtain ⟨⟨hl, hu⟩, ws, hP, hD, hT⟩ := h
  subst h1
  have htl : t < TB.length := (List.getElem?_eq_some_iff.mp h0).1
  refine ⟨⟨by rw [List.length_set]; exact hl, hu⟩, ws, hP, hD, fun i q hi => ?_, fun a ha => hT.2 a (by rw [List.length_set] at ha; exact ha)⟩
  obtain ⟨d, h2, h3⟩ := hT.1 i q hi
  by_cases e : t = eT E q.1
  · subst e
    have hdd : d = d0 := Option.some.inj (h2.symm.trans h0)
    subst hdd
    exact ⟨d1, by rw [List.getElem?_set_self htl], hd _ h3⟩
  · exact ⟨d, by rw [List.getElem?_set_ne e]; exact h2, h3⟩
theorem tcLoose {k : Nat → ClassId} {tg : Nat → Nat} {lo2 hi2 : Int} (hj : fds[j]? = some (.inl (lo, hi))) (h : lo2 ≤ lo ∧ hi ≤ hi2) : ∀ e, tcOK k tg (.inl (ci, fds)) e → tcOK k tg (.inl (ci, fds.set j (.inl (lo2, hi2)))) e := by
  rintro e ⟨fs, rfl, hlen, hfs⟩
  refine ⟨fs, rfl, by simp [hlen], fun i fd hi1 => ?_⟩
  by_cases hij : j = i
  · subst hij
    rw [List.getElem?_set_self (List.getElem?_eq_some_iff.mp hj).1] at hi1
    cases hi1
    obtain ⟨v, h1, x, h2, h3, h4⟩ := hfs j _ hj
    exact ⟨v, h1, x, h2, Int.le_trans h.1 h3, Int.le_trans h4 h.2⟩
  · rw [List.getElem?_set_ne hij] at hi1
    exact hfs i fd hi1
theorem tcLooseR {k : Nat → ClassId} {tg : Nat → Nat} {l2 : List Nat} (hj : fds[j]? = some (.inr l)) (h : ∀ t ∈ l, t ∈ l2) : ∀ e, tcOK k tg (.inl (ci, fds)) e → tcOK k tg (.inl (ci, fds.set j (.inr l2))) e := by
  rintro e ⟨fs, rfl, hlen, hfs⟩
  refine ⟨fs, rfl, by simp [hlen], fun i fd hi1 => ?_⟩
  by_cases hij : j = i
  · subst hij
    rw [List.getElem?_set_self (List.getElem?_eq_some_iff.mp hj).1] at hi1
    cases hi1
    obtain ⟨v, h1, q, h2, h3⟩ := hfs j _ hj
    exact ⟨v, h1, q, h2, h _ h3⟩
  · rw [List.getElem?_set_ne hij] at hi1
    exact hfs i fd hi1
theorem all3 {t u w : Nat} (h : TB[t]? = some d) (h2 : TB[u]? = some d) (h3 : TB[w]? = some d) : ∀ t' ∈ [t, u, w], TB[t']? = some d := fun t' ht => by
  rcases List.mem_cons.mp ht with e | ht
  · rw [e]; exact h
  · exact all2 h2 h3 t' ht
theorem memSplit {a t u : Nat} (h : a ∈ [t, u]) : a ∈ [t] ∨ a ∈ [u] := by
  rcases List.mem_cons.mp h with e | h
  · exact Or.inl (by rw [e]; exact List.mem_singleton.mpr rfl)
  · exact Or.inr h
theorem alls {P : Nat → Prop} {t : Nat} {l : List Nat} (h : P t) (h2 : ∀ t' ∈ l, P t') : ∀ t' ∈ t :: l, P t' := fun t' ht => by
  rcases List.mem_cons.mp ht with e | ht
  · rw [e]; exact h
  · exact h2 t' ht
theorem alls1 {P : Nat → Prop} {t : Nat} (h : P t) : ∀ t' ∈ [t], P t' := fun t' ht => by rw [List.mem_singleton.mp ht]; exact h
/-- an object of one class, of several kinds -/
abbrev obF (TB : List TD) (ci j : Nat) (fd : FD) (t : Nat) : Prop := ∃ fds : List FD, TB[t]? = some (.inl (ci, fds)) ∧ fds[j]? = some fd
abbrev obR (TB : List TD) (ci j : Nat) (L : List Nat) (t : Nat) : Prop := ∃ (fds : List FD) (l : List Nat), TB[t]? = some (.inl (ci, fds)) ∧ fds[j]? = some (.inr l) ∧ ∀ u ∈ l, u ∈ L
abbrev obC (TB : List TD) (ci t : Nat) : Prop := ∃ fds : List FD, TB[t]? = some (.inl (ci, fds))
theorem tRecvM (hK : va_K (eG E) vwCl (tyk (eK E)) s) (hH : TH E TB H) (hm : eT E b ∈ l) (ho : ∀ t ∈ l, obC TB ci t) (hc : CLS ci C T N ty0) : ∃ cell : Cell, H[b]? = some cell ∧ cell.vm.isStatics = false ∧ s.vm.findClass C = some cell.cls := by
  obtain ⟨fds, h1⟩ := ho _ hm
  exact tRecv hK hH h1 hc
theorem tGetR0 (F : Fx p s m meth c args y0 cc nL r0) (hK : va_K (eG E) vwCl (tyk (eK E)) s) (hH : TH E TB H) (hb : TB[eT E b]? = some (.inl (ci, fds))) (hj : fds[j]? = some (.inr l)) (hc : CLS ci C T N ty0) (hjN : j < N) (hlink : Cond.fieldLink y0.cls index (T j).1 (T j).2.1 (T j).2.2.1 ∈ wsL_law) (hdg : decode cc pc = .ok (.getfield index, 3))
    (kk : ∀ q : Nat, eT E q ∈ l → W p (eL E) e R s m args below meth c H locs cells slots Q (F0 m (pc + 3) ls (.ref q :: rest))) : W p (eL E) e R s m args below meth c H locs cells slots Q (F0 m pc ls (.ref b :: rest)) := by
  obtain ⟨hx, hb0, hr, hml, hown, hlk, hw, -⟩ := F
  obtain ⟨ws, i, e1, -, hP, hD, hT, hi, fs, rfl, hlen, hfs⟩ := hH.at hb
  obtain ⟨v, hv, q, rfl, h1⟩ := hfs j _ hj
  exact va_get hx hb0 hw hc.2.1 hown hK hP i hi hc.1 j hjN (hw _ hlink) (fun _ h9 => h9) hv hdg (kk q h1)
theorem tGetIM (F : Fx p s m meth c args y0 cc nL r0) (hK : va_K (eG E) vwCl (tyk (eK E)) s) (hH : TH E TB H) (hm : eT E b ∈ l) (ho : ∀ t ∈ l, obF TB ci j (.inl (lo, hi)) t) (hc : CLS ci C T N ty0) (hjN : j < N) (hlink : Cond.fieldLink y0.cls index (T j).1 (T j).2.1 (T j).2.2.1 ∈ wsL_law) (hdg : decode cc pc = .ok (.getfield index, 3))
    (kk : ∀ x : Int32, lo ≤ x.toInt ∧ x.toInt ≤ hi → W p (eL E) e R s m args below meth c H locs cells slots Q (F0 m (pc + 3) ls (.int x :: rest))) : W p (eL E) e R s m args below meth c H locs cells slots Q (F0 m pc ls (.ref b :: rest)) := by
  obtain ⟨fds, h1, h2⟩ := ho _ hm
  exact tGetI F hK hH h1 h2 hc hjN hlink hdg kk
theorem tGetRM {L : List Nat} (F : Fx p s m meth c args y0 cc nL r0) (hK : va_K (eG E) vwCl (tyk (eK E)) s) (hH : TH E TB H) (hm : eT E b ∈ l) (ho : ∀ t ∈ l, obR TB ci j L t) (hl : ∀ t ∈ L, TB[t]? = some d) (hc : CLS ci C T N ty0) (hjN : j < N) (hlink : Cond.fieldLink y0.cls index (T j).1 (T j).2.1 (T j).2.2.1 ∈ wsL_law) (hdg : decode cc pc = .ok (.getfield index, 3))
    (kk : ∀ q : Nat, eT E q ∈ L → TB[eT E q]? = some d → W p (eL E) e R s m args below meth c H locs cells slots Q (F0 m (pc + 3) ls (.ref q :: rest))) : W p (eL E) e R s m args below meth c H locs cells slots Q (F0 m pc ls (.ref b :: rest)) := by
  obtain ⟨fds, l', h1, h2, h3⟩ := ho _ hm
  exact tGetR F hK hH h1 h2 (fun t ht => hl t (h3 t ht)) hc hjN hlink hdg (fun q hq hd => kk q (h3 _ hq) hd)
theorem tGetRM0 {L : List Nat} (F : Fx p s m meth c args y0 cc nL r0) (hK : va_K (eG E) vwCl (tyk (eK E)) s) (hH : TH E TB H) (hm : eT E b ∈ l) (ho : ∀ t ∈ l, obR TB ci j L t) (hc : CLS ci C T N ty0) (hjN : j < N) (hlink : Cond.fieldLink y0.cls index (T j).1 (T j).2.1 (T j).2.2.1 ∈ wsL_law) (hdg : decode cc pc = .ok (.getfield index, 3))
    (kk : ∀ q : Nat, eT E q ∈ L → W p (eL E) e R s m args below meth c H locs cells slots Q (F0 m (pc + 3) ls (.ref q :: rest))) : W p (eL E) e R s m args below meth c H locs cells slots Q (F0 m pc ls (.ref b :: rest)) := by
  obtain ⟨fds, l', h1, h2, h3⟩ := ho _ hm
  exact tGetR0 F hK hH h1 h2 hc hjN hlink hdg (fun q hq => kk q (h3 _ hq))
abbrev obB (TB : List TD) (ci j : Nat) (lo hi : Int) (t : Nat) : Prop := ∃ (fds : List FD) (b : Int × Int), TB[t]? = some (.inl (ci, fds)) ∧ fds[j]? = some (.inl b) ∧ lo ≤ b.1 ∧ b.2 ≤ hi
theorem tGetIB (F : Fx p s m meth c args y0 cc nL r0) (hK : va_K (eG E) vwCl (tyk (eK E)) s) (hH : TH E TB H) (hm : eT E b ∈ l) (ho : ∀ t ∈ l, obB TB ci j lo hi t) (hc : CLS ci C T N ty0) (hjN : j < N) (hlink : Cond.fieldLink y0.cls index (T j).1 (T j).2.1 (T j).2.2.1 ∈ wsL_law) (hdg : decode cc pc = .ok (.getfield index, 3))
    (kk : ∀ x : Int32, lo ≤ x.toInt ∧ x.toInt ≤ hi → W p (eL E) e R s m args below meth c H locs cells slots Q (F0 m (pc + 3) ls (.int x :: rest))) : W p (eL E) e R s m args below meth c H locs cells slots Q (F0 m pc ls (.ref b :: rest)) := by
  obtain ⟨fds, b0, h1, h2, h3, h4⟩ := ho _ hm
  exact tGetI F hK hH h1 h2 hc hjN hlink hdg (fun x hx => kk x ⟨Int.le_trans h3 hx.1, Int.le_trans hx.2 h4⟩)
theorem ivP_w {n : Nat} {lo hi lo2 hi2 : Int} {f : Nat → Int32} (h : ivP n lo hi f) (hc : (decide (lo2 ≤ lo) && decide (hi ≤ hi2)) = true) : ivP n lo2 hi2 f := by
  simp only [Bool.and_eq_true, decide_eq_true_eq] at hc
  exact fun j hj => ⟨Int.le_trans hc.1 (h j hj).1, Int.le_trans (h j hj).2 hc.2⟩
theorem tIaldM (F : Fx p s m meth c args y0 cc nL r0) (hK : va_K (eG E) vwCl (tyk (eK E)) s) (hH : TH E TB H) (hm : eT E b ∈ l) (ho : ∀ t ∈ l, ∃ P, TB[t]? = some (.inr (.inl (0, n, P))) ∧ ∀ f, P f → ivP n lo hi f) (hix : 0 ≤ i.toInt ∧ i.toInt < n) (hdg : decode cc pc = .ok (.iaload, 1))
    (kk : ∀ x : Int32, lo ≤ x.toInt ∧ x.toInt ≤ hi → W p (eL E) e R s m args below meth c H locs cells slots Q (F0 m (pc + 1) ls (.int x :: rest))) : W p (eL E) e R s m args below meth c H locs cells slots Q (F0 m pc ls (.int i :: .ref b :: rest)) := by
  obtain ⟨P, h1, h2⟩ := ho _ hm
  exact tIald F hK hH h1 hix hdg (fun f hf => kk _ (h2 f hf _ (cl_lt hix)))
theorem tPutM {v : Value} {fd : FD} {ty : FieldType} (F : Fx p s m meth c args y0 cc nL r0) (hK : va_K (eG E) vwCl (tyk (eK E)) s) (hH : TH E TB H) (hS : va_S (eA E s.heap.size) s.heap H locs) (hm : eT E b ∈ l) (ho : ∀ t ∈ l, obF TB ci j fd t) (hv : fdOK (eT E) fd v) (hc : CLS ci C T N ty0) (hjN : j < N) (hlink : Cond.fieldLink y0.cls index (T j).1 (T j).2.1 (T j).2.2.1 ∈ wsL_law) (hfin : (T j).2.2.2 = false) (hty : ty0 j = ty) (hn : narrow ty v = v) (hfit : fits ty v = true) (hdg : decode cc pc = .ok (.putfield index, 3))
    (kk : ∀ (H1 : Heap) (locs1 : List Loc), TH E TB H1 → va_S (eA E s.heap.size) s.heap H1 locs1 → W p (eL E) e R s m args below meth c H1 locs1 cells slots Q (F0 m (pc + 3) ls rest)) : W p (eL E) e R s m args below meth c H locs cells slots Q (F0 m pc ls (v :: .ref b :: rest)) := by
  obtain ⟨fds, h1, h2⟩ := ho _ hm
  exact tPut F hK hH hS h1 h2 hv hc hjN hlink hfin hty hn hfit hdg kk
end TBASE
