/-! the contracts' form, and rows that lay a call in one piece -/
/-- the words of a method: its own code, and the law's -/
abbrev wm (y : MethodName) (cc : ByteArray) (n : Nat) (r : Option FieldType) : List Cond := .code y cc n r :: wsL_law
theorem wm_good {y : MethodName} {cc : ByteArray} {n : Nat} {r : Option FieldType} (h : Cond.code y cc n r ∈ wsL_law) : GoodIn wsL_law (wm y cc n r) := by
  intro w hw
  rcases List.mem_cons.mp hw with e | hw
  · subst e; exact ⟨h, (wl_gi _ h).2⟩
  · exact ⟨hw, (wl_gi _ hw).2⟩
/-- the classes of arrays -/
abbrev tyk (k : Nat → ClassId) : List (ClassId × FieldType) := [(k 0, .int), (k 1, .byte), (k 2, .long), (k 3, .boolean), (k 4, .object RX2), (k 5, .object RX5)]
/-- words that are no good words: the nest's links, the classes of arrays of references -/
def nst (U : State) : Prop := (va_Nw (.methodLinkNest RX6 15 yX2_init RX6) U ∧ va_Nw (.methodLinkNest RX6 25 yX5_init RX6) U ∧ va_Nw (.methodLinkNest RX1 11 yX5_init RX6) U ∧ va_Nw (.methodLinkNest RX5 59 yX6_copyRow RX6) U ∧ va_Nw (.methodLinkNest RX0 215 yX6_copyRow RX6) U ∧ va_Nw (.methodLinkNest RX2 73 yX6_copyRow RX6) U) ∧ va_AO RX2 U ∧ va_AO RX5 U
theorem nst.warm {s U : State} (hW : s.WarmedH U.vm) (h : nst s) : nst U := by
  obtain ⟨⟨a1, a2, a3, a4, a5, a6⟩, b1, b2⟩ := h
  exact ⟨⟨va_Nw.warmM hW a1, va_Nw.warmM hW a2, va_Nw.warmM hW a3, va_Nw.warmM hW a4, va_Nw.warmM hW a5, va_Nw.warmM hW a6⟩, va_AO.moved hW.alike b1, va_AO.moved hW.alike b2⟩
theorem nst.same {s U : State} (hv : s.vm = U.vm) (h : nst s) : nst U := by
  obtain ⟨⟨a1, a2, a3, a4, a5, a6⟩, b1, b2⟩ := h
  have hA : s.vm.Alike U.vm := by rw [← hv]; exact Vm.Alike.refl s.vm
  exact ⟨⟨va_Nw.same rfl hv a1, va_Nw.same rfl hv a2, va_Nw.same rfl hv a3, va_Nw.same rfl hv a4, va_Nw.same rfl hv a5, va_Nw.same rfl hv a6⟩, va_AO.moved hA b1, va_AO.moved hA b2⟩
/-- a contract's start, its end -/
def Pw (G : va_G) (k : Nat → ClassId) (pre : va_W) (sz : Nat) (U : State) : Prop := U.heap.size = sz ∧ va_P G vwCl pre U.heap ∧ va_K G vwCl (tyk k) U ∧ va_D (fun _ => True) pre ∧ nst U
def Bx (G : va_G) (A : Nat → Prop) (w : va_W) (t : State) : Prop := va_P G vwCl w t.heap ∧ va_D A w
def CtV (l : Launch) (G : va_G) (k : Nat → ClassId) (y : MethodName) (cc : ByteArray) (n : Nat) (rm : Room) (av : List Value) (pre : va_W) (post : va_W → Prop) : Prop := ∀ sz : Nat, Met l y (wm y cc n none) rm (va_Pc av (Pw G k pre sz)) (va_Qv post (Bx G (va_A pre sz)) (va_A pre sz)) rm.cells rm.slots (va_A pre sz)
def CtI (l : Launch) (G : va_G) (k : Nat → ClassId) (y : MethodName) (cc : ByteArray) (n : Nat) (r : FieldType) (rm : Room) (av : List Value) (pre : va_W) (post : Int32 → va_W → Prop) : Prop := ∀ sz : Nat, Met l y (wm y cc n (some r)) rm (va_Pc av (Pw G k pre sz)) (va_Qi post (Bx G (va_A pre sz)) (va_A pre sz)) rm.cells rm.slots (va_A pre sz)
def CtL (l : Launch) (G : va_G) (k : Nat → ClassId) (y : MethodName) (cc : ByteArray) (n : Nat) (rm : Room) (av : List Value) (pre : va_W) (post : Int64 → va_W → Prop) : Prop := ∀ sz : Nat, Met l y (wm y cc n (some .long)) rm (va_Pc av (Pw G k pre sz)) (va_Ql post (Bx G (va_A pre sz)) (va_A pre sz)) rm.cells rm.slots (va_A pre sz)
theorem pw_blind {G : va_G} {k : Nat → ClassId} {pre : va_W} {sz : Nat} {av : List Value} : FrameBlind (va_Pc av (Pw G k pre sz)) := fun a U g mk q => by
  obtain ⟨q0, q1, qP, qK, qD, qN⟩ := q
  exact ⟨q0, q1, qP, va_K.moved (u := U) (U := U.calling g mk a) (Vm.Alike.refl U.vm) qK, qD, nst.same (s := U) (U := U.calling g mk a) rfl qN⟩
section BASE
variable {p : Program} {l : Launch} {e : Env} {R : Room} {s : State} {m : MethodId} {args : Array Value} {below : List Frame} {meth : Method} {c : Code} {H : Heap} {locs : List Loc} {cells slots : Nat} {Q : State → Prop}
variable {G : va_G} {k : Nat → ClassId} {pre : va_W} {A : Nat → Prop}
/-- what every row of a method asks -/
def Fx (p : Program) (s : State) (m : MethodId) (meth : Method) (c : Code) (args : Array Value) (y : MethodName) (cc : ByteArray) (n : Nat) (r : Option FieldType) : Prop :=
  p.tables.exec = Jvm.exec ∧ c.code = cc ∧ meth.sig.returnType = r ∧ c.maxLocals = n ∧ s.vm.findClass y.cls = some m.cls ∧ meth.locks = false ∧ (∀ w ∈ wsL_law, w.before args s = true) ∧ meth.name = y.name
theorem enV {y : MethodName} {cc : ByteArray} {n : Nat} {rm : Room} {av : List Value} {post : va_W → Prop} (hy : plainName y.cls = true) (hle : (lg_sl av).length ≤ n)
    (hb : ∀ (p : Program) (e : Env) (s : State) (m : MethodId) (below : List Frame) (meth : Method) (c : Code) (ls : Array Slot) (A : Nat → Prop), Fx p s m meth c av.toArray y cc n none → va_K G vwCl (tyk k) s → nst s → (∀ q, s.heap.size ≤ q → A q) → va_P G vwCl pre s.heap → va_D A pre → va_S A s.heap s.heap [] → lv_has ls n (lv_args 0 av) →
      W p l e rm s m av.toArray below meth c s.heap [] 0 0 (MQ below (va_Qv post (Bx G A) A) av.toArray s rm.cells rm.slots A) (F0 m 0 ls [])) : CtV l G k y cc n rm av pre post := by
  intro sz
  refine Met.ofW (cc := cc) (maxL := n) (ret := none) hy rfl ?_
  intro p e s m args below meth c s₁ B hml hv
  obtain ⟨rfl, hsz, hP, hK, hD0, hN⟩ := hv
  subst hsz
  have hts := atoms_spec (ws := wm y cc n none) B.pre
  rw [lg_entry_eq]
  exact hb p e s m below meth c _ _ ⟨B.exec, B.bytes, B.returns, hml, findClass_of_methodNamed B.named, B.notSynchronized, fun w hw => hts w (List.mem_cons_of_mem _ hw), (name_of_methodNamed B.named B.method).1⟩ hK hN (fun q h => Or.inr h) hP (hD0.self (sz := s.heap.size)) va_S.rf (lv_entry av hle)
theorem enI {y : MethodName} {cc : ByteArray} {n : Nat} {r : FieldType} {rm : Room} {av : List Value} {post : Int32 → va_W → Prop} (hy : plainName y.cls = true) (hle : (lg_sl av).length ≤ n)
    (hb : ∀ (p : Program) (e : Env) (s : State) (m : MethodId) (below : List Frame) (meth : Method) (c : Code) (ls : Array Slot) (A : Nat → Prop), Fx p s m meth c av.toArray y cc n (some r) → va_K G vwCl (tyk k) s → nst s → (∀ q, s.heap.size ≤ q → A q) → va_P G vwCl pre s.heap → va_D A pre → va_S A s.heap s.heap [] → lv_has ls n (lv_args 0 av) →
      W p l e rm s m av.toArray below meth c s.heap [] 0 0 (MQ below (va_Qi post (Bx G A) A) av.toArray s rm.cells rm.slots A) (F0 m 0 ls [])) : CtI l G k y cc n r rm av pre post := by
  intro sz
  refine Met.ofW (cc := cc) (maxL := n) (ret := some r) hy rfl ?_
  intro p e s m args below meth c s₁ B hml hv
  obtain ⟨rfl, hsz, hP, hK, hD0, hN⟩ := hv
  subst hsz
  have hts := atoms_spec (ws := wm y cc n (some r)) B.pre
  rw [lg_entry_eq]
  exact hb p e s m below meth c _ _ ⟨B.exec, B.bytes, B.returns, hml, findClass_of_methodNamed B.named, B.notSynchronized, fun w hw => hts w (List.mem_cons_of_mem _ hw), (name_of_methodNamed B.named B.method).1⟩ hK hN (fun q h => Or.inr h) hP (hD0.self (sz := s.heap.size)) va_S.rf (lv_entry av hle)
theorem enL {y : MethodName} {cc : ByteArray} {n : Nat} {rm : Room} {av : List Value} {post : Int64 → va_W → Prop} (hy : plainName y.cls = true) (hle : (lg_sl av).length ≤ n)
    (hb : ∀ (p : Program) (e : Env) (s : State) (m : MethodId) (below : List Frame) (meth : Method) (c : Code) (ls : Array Slot) (A : Nat → Prop), Fx p s m meth c av.toArray y cc n (some .long) → va_K G vwCl (tyk k) s → nst s → (∀ q, s.heap.size ≤ q → A q) → va_P G vwCl pre s.heap → va_D A pre → va_S A s.heap s.heap [] → lv_has ls n (lv_args 0 av) →
      W p l e rm s m av.toArray below meth c s.heap [] 0 0 (MQ below (va_Ql post (Bx G A) A) av.toArray s rm.cells rm.slots A) (F0 m 0 ls [])) : CtL l G k y cc n rm av pre post := by
  intro sz
  refine Met.ofW (cc := cc) (maxL := n) (ret := some .long) hy rfl ?_
  intro p e s m args below meth c s₁ B hml hv
  obtain ⟨rfl, hsz, hP, hK, hD0, hN⟩ := hv
  subst hsz
  have hts := atoms_spec (ws := wm y cc n (some .long)) B.pre
  rw [lg_entry_eq]
  exact hb p e s m below meth c _ _ ⟨B.exec, B.bytes, B.returns, hml, findClass_of_methodNamed B.named, B.notSynchronized, fun w hw => hts w (List.mem_cons_of_mem _ hw), (name_of_methodNamed B.named B.method).1⟩ hK hN (fun q h => Or.inr h) hP (hD0.self (sz := s.heap.size)) va_S.rf (lv_entry av hle)
variable {cc : ByteArray} {pc : Nat} {ls : Array Slot} {rest : List Value} {ws w : va_W} {y0 : MethodName} {nL : Nat}
theorem exV {post : va_W → Prop} (F : Fx p s m meth c args y0 cc nL none) (hP : va_P G vwCl ws H) (hD : va_D A ws) (hS : va_S A s.heap H locs) (hdg : decode cc pc = .ok (.return_, 1)) (is : List Nat) (hn : va_nd is = true) (hs : is.map (fun i => ws[i]?) = w.map some) (hs2 : is.filterMap (fun i => ws[i]?) = w) (hq : post w) :
    W p l e R s m args below meth c H locs cells slots (MQ below (va_Qv post (Bx G A) A) args s cells slots A) (F0 m pc ls []) := by
  obtain ⟨hx, hb, hr, -, -, hlk, -, -⟩ := F
  exact W.vret hx hb hr (fun t ht hW => ⟨⟨w, rfl, hq, by rw [ht]; exact hP.sub is hs2, hD.sub is hn hs⟩, hS.F ht⟩) hS.2.2 hdg
theorem exI {r : FieldType} {v : Int32} {post : Int32 → va_W → Prop} (F : Fx p s m meth c args y0 cc nL (some r)) (hP : va_P G vwCl ws H) (hD : va_D A ws) (hS : va_S A s.heap H locs) (hdg : decode cc pc = .ok (.ireturn, 1)) (is : List Nat) (hn : va_nd is = true) (hs : is.map (fun i => ws[i]?) = w.map some) (hs2 : is.filterMap (fun i => ws[i]?) = w) (hnr : narrow r (.int v) = .int v) (hq : post v w) :
    W p l e R s m args below meth c H locs cells slots (MQ below (va_Qi post (Bx G A) A) args s cells slots A) (F0 m pc ls [.int v]) := by
  obtain ⟨hx, hb, hr, -, -, hlk, -, -⟩ := F
  exact W.zret hx hb hr hnr (fun t ht hW => ⟨⟨v, w, rfl, hq, by rw [ht]; exact hP.sub is hs2, hD.sub is hn hs⟩, hS.F ht⟩) hS.2.2 hdg
theorem exL {v : Int64} {post : Int64 → va_W → Prop} (F : Fx p s m meth c args y0 cc nL (some .long)) (hP : va_P G vwCl ws H) (hD : va_D A ws) (hS : va_S A s.heap H locs) (hdg : decode cc pc = .ok (.lreturn, 1)) (is : List Nat) (hn : va_nd is = true) (hs : is.map (fun i => ws[i]?) = w.map some) (hs2 : is.filterMap (fun i => ws[i]?) = w) (hq : post v w) :
    W p l e R s m args below meth c H locs cells slots (MQ below (va_Ql post (Bx G A) A) args s cells slots A) (F0 m pc ls [.long v]) := by
  obtain ⟨hx, hb, hr, -, -, hlk, -, -⟩ := F
  exact W.lret hx hb hr (fun t ht hW => ⟨⟨v, w, rfl, hq, by rw [ht]; exact hP.sub is hs2, hD.sub is hn hs⟩, hS.F ht⟩) hS.2.2 hdg
theorem topc {x v : Int32} (h : x = v) (kk : W p l e R s m args below meth c H locs cells slots Q (F0 m pc ls (.int v :: rest))) : W p l e R s m args below meth c H locs cells slots Q (F0 m pc ls (.int x :: rest)) := h ▸ kk
theorem topl {x v : Int64} (h : x = v) (kk : W p l e R s m args below meth c H locs cells slots Q (F0 m pc ls (.long v :: rest))) : W p l e R s m args below meth c H locs cells slots Q (F0 m pc ls (.long x :: rest)) := h ▸ kk
theorem tops {st st' : List Value} (h : st = st') (kk : W p l e R s m args below meth c H locs cells slots Q (F0 m pc ls st')) : W p l e R s m args below meth c H locs cells slots Q (F0 m pc ls st) := h ▸ kk
/-- a method that is called: what the tables say of it -/
def MV (y : MethodName) (bytes : ByteArray) (maxL : Nat) (r : Option FieldType) (np : Nat) : Prop :=
  Cond.code y bytes maxL r ∈ wsL_law ∧ Cond.instanceMethod y ∈ wsL_law ∧ Cond.selects y.cls y y ∈ wsL_law ∧ Cond.initialized y.cls ∈ wsL_law ∧ y.cls ≠ "java/lang/invoke/MethodHandle" ∧ y.cls ≠ "java/lang/invoke/VarHandle" ∧ (parseMethodDescriptor y.desc).map (fun d => d.parameters.length) = some np
def MI (y : MethodName) (bytes : ByteArray) (maxL : Nat) (np : Nat) : Prop :=
  Cond.code y bytes maxL none ∈ wsL_law ∧ Cond.instanceMethod y ∈ wsL_law ∧ Cond.initialized y.cls ∈ wsL_law ∧ y.name = "<init>" ∧ y.cls ≠ "java/lang/invoke/MethodHandle" ∧ y.cls ≠ "java/lang/invoke/VarHandle" ∧ (parseMethodDescriptor y.desc).map (fun d => d.parameters.length) = some np
def MS (y : MethodName) (bytes : ByteArray) (maxL : Nat) (r : Option FieldType) (np : Nat) : Prop :=
  Cond.code y bytes maxL r ∈ wsL_law ∧ Cond.static y ∈ wsL_law ∧ Cond.initialized y.cls ∈ wsL_law ∧ y.cls ≠ "java/lang/invoke/MethodHandle" ∧ y.cls ≠ "java/lang/invoke/VarHandle" ∧ (parseMethodDescriptor y.desc).map (fun d => d.parameters.length) = some np
/-- what comes behind a call: the rest, and the callee's world -/
theorem bh_join {wr w1 : va_W} {H1 : Heap} (hP : va_P G vwCl ws H) (hD : va_D A ws) (isC isR : List Nat) (hC : isC.map (fun i => ws[i]?) = pre.map some) (hR : isR.map (fun i => ws[i]?) = wr.map some) (hn : va_nd isR = true) (hdis : ∀ i ∈ isR, i ∉ isC)
    (hk : ∀ q : Nat, q < H.size → ¬ va_A pre H.size q → H1[q]? = H[q]?) (hF : ∀ q, va_A pre H.size q → A q) (hB : va_P G vwCl w1 H1 ∧ va_D (va_A pre H.size) w1) : va_P G vwCl (wr ++ w1) H1 ∧ va_D A (wr ++ w1) :=
  va_join hP hD isC isR hC hR hn hdis hk hF hB.1 hB.2
variable {y : MethodName} {bytes : ByteArray} {maxL index ci qb b : Nat} {r : FieldType} {rmy : Room} {As st : List Value} {wr : va_W} {fs : List Value} {qC : vw_C} {r0 : Option FieldType} {host : String}
theorem kVi {post : Int32 → va_W → Prop} (F : Fx p s m meth c args y0 cc nL r0) (hK : va_K G vwCl (tyk k) s) (hN : nst s) (hA : ∀ q, s.heap.size ≤ q → A q) (hM : CtI l G k y bytes maxL r rmy (.ref b :: As) pre post) (hy : MV y bytes maxL (some r) As.length) (hl : Cond.methodLink y0.cls index y ∈ wsL_law)
    (hroom : rmy.frames + 1 ≤ R.frames ∧ 8 + (maxL + 11) + rmy.locals ≤ R.locals) (hcs : cells + rmy.cells ≤ R.cells ∧ slots + rmy.slots ≤ R.slots) (hP : va_P G vwCl ws H) (hD : va_D A ws) (hS : va_S A s.heap H locs)
    (isC isR : List Nat) (hC : isC.map (fun i => ws[i]?) = pre.map some) (hC2 : isC.filterMap (fun i => ws[i]?) = pre) (hR : isR.map (fun i => ws[i]?) = wr.map some) (hnC : va_nd isC = true) (hnR : va_nd isR = true) (hdis : ∀ i ∈ isR, i ∉ isC)
    (qb : Nat) (hb0 : pre[qb]? = some (b, .inr (ci, fs))) (hcl : vwCl[ci]? = some qC) (hqC : qC.1 = y.cls) (hst : st = As.reverse ++ .ref b :: rest) (hsz : ls.size = nL) (hrest : (rest.map fun v => v.category).sum ≤ 8) (hdg : decode cc pc = .ok (.invokevirtual index, 3))
    (kk : ∀ (v : Int32) (w : va_W) (H1 : Heap) (locs1 : List Loc), post v w → va_P G vwCl (wr ++ w) H1 → va_D A (wr ++ w) → va_S A s.heap H1 locs1 → W p l e R s m args below meth c H1 locs1 (cells + rmy.cells) (slots + rmy.slots) Q (F0 m (pc + 3) ls (.int v :: rest))) :
    W p l e R s m args below meth c H locs cells slots Q (F0 m pc ls st) := by
  obtain ⟨hx, hb, hr, hml, hown, hlk, hw, -⟩ := F
  obtain ⟨k1, k2, k3, k4, k5, k6, k7⟩ := hy
  subst hst
  have hPc := hP.sub isC hC2
  have hDc := hD.sub isC hnC hC
  have hFc := va_free (wc := pre) hD hS hA isC hC
  have cw : CallW R s args y0.cls y.cls index y bytes maxL (some r) (wm y bytes maxL (some r)) rmy rmy.cells rmy.slots As.length := ⟨callB_of As.length hw (wm_good k1) rfl rfl rfl (hw _ k4) (hw _ hl) ⟨k5, k6, k7⟩ hroom, hw _ k2, hw _ k3⟩
  have hrc := va_recv hK hPc hcl hb0
  rw [hqC] at hrc
  refine va_calli (va_runV (nL := nL) ⟨hx, hb, hml, hown, hw⟩ (hM H.size) cw ⟨pw_blind, hrc, fun U hU hW => ⟨rfl, by rw [hU], by rw [hU]; exact hPc, va_K.moved hW.alike hK, hDc.weaken (fun _ _ _ _ => trivial), hN.warm hW⟩⟩ rfl rfl hsz rfl (by simpa [JFrame.monitorRoom] using hrest) hdg hcs) hS (fun q _ h => hFc q h) hFc (fun v u t H1 locs1 ht hvm hq hB hz1 hk1 hS1 => ?_)
  have hB' : va_P G vwCl u H1 ∧ va_D (va_A pre H.size) u := by obtain ⟨b1, b2⟩ := hB; rw [ht] at b1; exact ⟨b1, b2⟩
  obtain ⟨j1, j2⟩ := bh_join hP hD isC isR hC hR hnR hdis hk1 hFc hB'
  exact kk v u H1 locs1 hq j1 j2 hS1
end BASE
