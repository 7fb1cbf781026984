/-! the contracts' form, and rows that lay a call in one piece -/
/-- the words of a method: its own code, and the law's -/
abbrev wm (y : MethodName) (cc : ByteArray) (n : Nat) (r : Option FieldType) : List Cond := .code y cc n r :: wsL_law
theorem wm_good {y : MethodName} {cc : ByteArray} {n : Nat} {r : Option FieldType} (h : Cond.code y cc n r ∈ wsL_law) : GoodIn wsL_law (wm y cc n r) := by
  intro w hw
  rcases List.mem_cons.mp hw with e | hw
  · subst e; exact ⟨h, (wl_gi _ h).2⟩
  · exact ⟨hw, (wl_gi _ hw).2⟩
/-- the classes of arrays -/
abbrev tyk (k : Nat → ClassId) : List (ClassId × FieldType) := [(k 0, .int), (k 1, .byte), (k 2, .long), (k 3, .boolean), (k 4, .object RX2), (k 5, .object RX5)]
/-- words that are no good words: the nest's links, the classes of arrays of references -/
def nst (U : State) : Prop := (va_Nw (.methodLinkNest RX6 15 yX2_init RX6) U ∧ va_Nw (.methodLinkNest RX6 25 yX5_init RX6) U ∧ va_Nw (.methodLinkNest RX1 11 yX5_init RX6) U ∧ va_Nw (.methodLinkNest RX5 59 yX6_copyRow RX6) U ∧ va_Nw (.methodLinkNest RX0 215 yX6_copyRow RX6) U ∧ va_Nw (.methodLinkNest RX2 73 yX6_copyRow RX6) U) ∧ va_AO RX2 U ∧ va_AO RX5 U
theorem nst.warm {s U : State} (hW : s.WarmedH U.vm) (h : nst s) : nst U := by
  obtain ⟨⟨a1, a2, a3, a4, a5, a6⟩, b1, b2⟩ := h
  exact ⟨⟨va_Nw.warmM hW a1, va_Nw.warmM hW a2, va_Nw.warmM hW a3, va_Nw.warmM hW a4, va_Nw.warmM hW a5, va_Nw.warmM hW a6⟩, va_AO.moved hW.alike b1, va_AO.moved hW.alike b2⟩
theorem nst.same {s U : State} (hv : s.vm = U.vm) (h : nst s) : nst U := by
  obtain ⟨⟨a1, a2, a3, a4, a5, a6⟩, b1, b2⟩ := h
  have hA : s.vm.Alike U.vm := by rw [← hv]; exact Vm.Alike.refl s.vm
  exact ⟨⟨va_Nw.same rfl hv a1, va_Nw.same rfl hv a2, va_Nw.same rfl hv a3, va_Nw.same rfl hv a4, va_Nw.same rfl hv a5, va_Nw.same rfl hv a6⟩, va_AO.moved hA b1, va_AO.moved hA b2⟩
/-- a contract's start, its end -/
def Pw (G : va_G) (k : Nat → ClassId) (pre : va_W) (sz : Nat) (U : State) : Prop := U.heap.size = sz ∧ va_P G vwCl pre U.heap ∧ va_K G vwCl (tyk k) U ∧ va_D (fun _ => True) pre ∧ nst U
def Bx (G : va_G) (A : Nat → Prop) (w : va_W) (t : State) : Prop := va_P G vwCl w t.heap ∧ va_D A w
def CtV (l : Launch) (G : va_G) (k : Nat → ClassId) (y : MethodName) (cc : ByteArray) (n : Nat) (rm : Room) (av : List Value) (pre : va_W) (post : va_W → Prop) : Prop := ∀ sz : Nat, Met l y (wm y cc n none) rm (va_Pc av (Pw G k pre sz)) (va_Qv post (Bx G (va_A pre sz)) (va_A pre sz)) rm.cells rm.slots (va_A pre sz)
def CtI (l : Launch) (G : va_G) (k : Nat → ClassId) (y : MethodName) (cc : ByteArray) (n : Nat) (r : FieldType) (rm : Room) (av : List Value) (pre : va_W) (post : Int32 → va_W → Prop) : Prop := ∀ sz : Nat, Met l y (wm y cc n (some r)) rm (va_Pc av (Pw G k pre sz)) (va_Qi post (Bx G (va_A pre sz)) (va_A pre sz)) rm.cells rm.slots (va_A pre sz)
def CtL (l : Launch) (G : va_G) (k : Nat → ClassId) (y : MethodName) (cc : ByteArray) (n : Nat) (rm : Room) (av : List Value) (pre : va_W) (post : Int64 → va_W → Prop) : Prop := ∀ sz : Nat, Met l y (wm y cc n (some .long)) rm (va_Pc av (Pw G k pre sz)) (va_Ql post (Bx G (va_A pre sz)) (va_A pre sz)) rm.cells rm.slots (va_A pre sz)
theorem pw_blind {G : va_G} {k : Nat → ClassId} {pre : va_W} {sz : Nat} {av : List Value} : FrameBlind (va_Pc av (Pw G k pre sz)) := fun a U g mk q => by
  obtain ⟨q0, q1, qP, qK, qD, qN⟩ := q
  exact ⟨q0, q1, qP, va_K.moved (u := U) (U := U.calling g mk a) (Vm.Alike.refl U.vm) qK, qD, nst.same (s := U) (U := U.calling g mk a) rfl qN⟩
section BASE
variable {p : Program} {l : Launch} {e : Env} {R : Room} {s : State} {m : MethodId} {args : Array Value} {below : List Frame} {meth : Method} {c : Code} {H : Heap} {locs : List Loc} {cells slots : Nat} {Q : State → Prop}
variable {G : va_G} {k : Nat → ClassId} {pre : va_W} {A : Nat → Prop}
/-- what every row of a method asks -/
def Fx (p : Program) (s : State) (m : MethodId) (meth : Method) (c : Code) (args : Array Value) (y : MethodName) (cc : ByteArray) (n : Nat) (r : Option FieldType) : Prop :=
  p.tables.exec = Jvm.exec ∧ c.code = cc ∧ meth.sig.returnType = r ∧ c.maxLocals = n ∧ s.vm.findClass y.cls = some m.cls ∧ meth.locks = false ∧ (∀ w ∈ wsL_law, w.before args s = true) ∧ meth.name = y.name
theorem enV {y : MethodName} {cc : ByteArray} {n : Nat} {rm : Room} {av : List Value} {post : va_W → Prop} (hy : plainName y.cls = true) (hle : (lg_sl av).length ≤ n)
    (hb : ∀ (p : Program) (e : Env) (s : State) (m : MethodId) (below : List Frame) (meth : Method) (c : Code) (ls : Array Slot) (A : Nat → Prop), Fx p s m meth c av.toArray y cc n none → va_K G vwCl (tyk k) s → nst s → (∀ q, s.heap.size ≤ q → A q) → va_P G vwCl pre s.heap → va_D A pre → va_S A s.heap s.heap [] → lv_has ls n (lv_args 0 av) →
      W p l e rm s m av.toArray below meth c s.heap [] 0 0 (MQ below (va_Qv post (Bx G A) A) av.toArray s rm.cells rm.slots A) (F0 m 0 ls [])) : CtV l G k y cc n rm av pre post := by
  intro sz
  refine Met.ofW (cc := cc) (maxL := n) (ret := none) hy rfl ?_
  intro p e s m args below meth c s₁ B hml hv
  obtain ⟨rfl, hsz, hP, hK, hD0, hN⟩ := hv
  subst hsz
  have hts := atoms_spec (ws := wm y cc n none) B.pre
  rw [lg_entry_eq]
  exact hb p e s m below meth c _ _ ⟨B.exec, B.bytes, B.returns, hml, findClass_of_methodNamed B.named, B.notSynchronized, fun w hw => hts w (List.mem_cons_of_mem _ hw), (name_of_methodNamed B.named B.method).1⟩ hK hN (fun q h => Or.inr h) hP (hD0.self (sz := s.heap.size)) va_S.rf (lv_entry av hle)
theorem enI {y : MethodName} {cc : ByteArray} {n : Nat} {r : FieldType} {rm : Room} {av : List Value} {post : Int32 → va_W → Prop} (hy : plainName y.cls = true) (hle : (lg_sl av).length ≤ n)
    (hb : ∀ (p : Program) (e : Env) (s : State) (m : MethodId) (below : List Frame) (meth : Method) (c : Code) (ls : Array Slot) (A : Nat → Prop), Fx p s m meth c av.toArray y cc n (some r) → va_K G vwCl (tyk k) s → nst s → (∀ q, s.heap.size ≤ q → A q) → va_P G vwCl pre s.heap → va_D A pre → va_S A s.heap s.heap [] → lv_has ls n (lv_args 0 av) →
      W p l e rm s m av.toArray below meth c s.heap [] 0 0 (MQ below (va_Qi post (Bx G A) A) av.toArray s rm.cells rm.slots A) (F0 m 0 ls [])) : CtI l G k y cc n r rm av pre post := by
  intro sz
  refine Met.ofW (cc := cc) (maxL := n) (ret := some r) hy rfl ?_
  intro p e s m args below meth c s₁ B hml hv
  obtain ⟨rfl, hsz, hP, hK, hD0, hN⟩ := hv
  subst hsz
  have hts := atoms_spec (ws := wm y cc n (some r)) B.pre
  rw [lg_entry_eq]
  exact hb p e s m below meth c _ _ ⟨B.exec, B.bytes, B.returns, hml, findClass_of_methodNamed B.named, B.notSynchronized, fun w hw => hts w (List.mem_cons_of_mem _ hw), (name_of_methodNamed B.named B.method).1⟩ hK hN (fun q h => Or.inr h) hP (hD0.self (sz := s.heap.size)) va_S.rf (lv_entry av hle)
theorem enL {y : MethodName} {cc : ByteArray} {n : Nat} {rm : Room} {av : List Value} {post : Int64 → va_W → Prop} (hy : plainName y.cls = true) (hle : (lg_sl av).length ≤ n)
    (hb : ∀ (p : Program) (e : Env) (s : State) (m : MethodId) (below : List Frame) (meth : Method) (c : Code) (ls : Array Slot) (A : Nat → Prop), Fx p s m meth c av.toArray y cc n (some .long) → va_K G vwCl (tyk k) s → nst s → (∀ q, s.heap.size ≤ q → A q) → va_P G vwCl pre s.heap → va_D A pre → va_S A s.heap s.heap [] → lv_has ls n (lv_args 0 av) →
      W p l e rm s m av.toArray below meth c s.heap [] 0 0 (MQ below (va_Ql post (Bx G A) A) av.toArray s rm.cells rm.slots A) (F0 m 0 ls [])) : CtL l G k y cc n rm av pre post := by
  intro sz
  refine Met.ofW (cc := cc) (maxL := n) (ret := some .long) hy rfl ?_
  intro p e s m args below meth c s₁ B hml hv
  obtain ⟨rfl, hsz, hP, hK, hD0, hN⟩ := hv
  subst hsz
  have hts := atoms_spec (ws := wm y cc n (some .long)) B.pre
  rw [lg_entry_eq]
  exact hb p e s m below meth c _ _ ⟨B.exec, B.bytes, B.returns, hml, findClass_of_methodNamed B.named, B.notSynchronized, fun w hw => hts w (List.mem_cons_of_mem _ hw), (name_of_methodNamed B.named B.method).1⟩ hK hN (fun q h => Or.inr h) hP (hD0.self (sz := s.heap.size)) va_S.rf (lv_entry av hle)
variable {cc : ByteArray} {pc : Nat} {ls : Array Slot} {rest : List Value} {ws w : va_W} {y0 : MethodName} {nL : Nat}
theorem exV {post : va_W → Prop} (F : Fx p s m meth c args y0 cc nL none) (hP : va_P G vwCl ws H) (hD : va_D A ws) (hS : va_S A s.heap H locs) (hdg : decode cc pc = .ok (.return_, 1)) (is : List Nat) (hn : va_nd is = true) (hs : is.map (fun i => ws[i]?) = w.map some) (hs2 : is.filterMap (fun i => ws[i]?) = w) (hq : post w) :
    W p l e R s m args below meth c H locs cells slots (MQ below (va_Qv post (Bx G A) A) args s cells slots A) (F0 m pc ls []) := by
  obtain ⟨hx, hb, hr, -, -, hlk, -, -⟩ := F
  exact W.vret hx hb hr (fun t ht hW => ⟨⟨w, rfl, hq, by rw [ht]; exact hP.sub is hs2, hD.sub is hn hs⟩, hS.F ht⟩) hS.2.2 hdg
theorem exI {r : FieldType} {v : Int32} {post : Int32 → va_W → Prop} (F : Fx p s m meth c args y0 cc nL (some r)) (hP : va_P G vwCl ws H) (hD : va_D A ws) (hS : va_S A s.heap H locs) (hdg : decode cc pc = .ok (.ireturn, 1)) (is : List Nat) (hn : va_nd is = true) (hs : is.map (fun i => ws[i]?) = w.map some) (hs2 : is.filterMap (fun i => ws[i]?) = w) (hnr : narrow r (.int v) = .int v) (hq : post v w) :
    W p l e R s m args below meth c H locs cells slots (MQ below (va_Qi post (Bx G A) A) args s cells slots A) (F0 m pc ls [.int v]) := by
  obtain ⟨hx, hb, hr, -, -, hlk, -, -⟩ := F
  exact W.zret hx hb hr hnr (fun t ht hW => ⟨⟨v, w, rfl, hq, by rw [ht]; exact hP.sub is hs2, hD.sub is hn hs⟩, hS.F ht⟩) hS.2.2 hdg
theorem exL {v : Int64} {post : Int64 → va_W → Prop} (F : Fx p s m meth c args y0 cc nL (some .long)) (hP : va_P G vwCl ws H) (hD : va_D A ws) (hS : va_S A s.heap H locs) (hdg : decode cc pc = .ok (.lreturn, 1)) (is : List Nat) (hn : va_nd is = true) (hs : is.map (fun i => ws[i]?) = w.map some) (hs2 : is.filterMap (fun i => ws[i]?) = w) (hq : post v w) :
    W p l e R s m args below meth c H locs cells slots (MQ below (va_Ql post (Bx G A) A) args s cells slots A) (F0 m pc ls [.long v]) := by
  obtain ⟨hx, hb, hr, -, -, hlk, -, -⟩ := F
  exact W.lret hx hb hr (fun t ht hW => ⟨⟨v, w, rfl, hq, by rw [ht]; exact hP.sub is hs2, hD.sub is hn hs⟩, hS.F ht⟩) hS.2.2 hdg
theorem topc {x v : Int32} (h : x = v) (kk : W p l e R s m args below meth c H locs cells slots Q (F0 m pc ls (.int v :: rest))) : W p l e R s m args below meth c H locs cells slots Q (F0 m pc ls (.int x :: rest)) := h ▸ kk
theorem topl {x v : Int64} (h : x = v) (kk : W p l e R s m args below meth c H locs cells slots Q (F0 m pc ls (.long v :: rest))) : W p l e R s m args below meth c H locs cells slots Q (F0 m pc ls (.long x :: rest)) := h ▸ kk
theorem tops {st st' : List Value} (h : st = st') (kk : W p l e R s m args below meth c H locs cells slots Q (F0 m pc ls st')) : W p l e R s m args below meth c H locs cells slots Q (F0 m pc ls st) := h ▸ kk
/-- a method that is called: what the tables say of it -/
def MV (y : MethodName) (bytes : ByteArray) (maxL : Nat) (r : Option FieldType) (np : Nat) : Prop :=
  Cond.code y bytes maxL r ∈ wsL_law ∧ Cond.instanceMethod y ∈ wsL_law ∧ Cond.selects y.cls y y ∈ wsL_law ∧ Cond.initialized y.cls ∈ wsL_law ∧ y.cls ≠ "java/lang/invoke/MethodHandle" ∧ y.cls ≠ "java/lang/invoke/VarHandle" ∧ (parseMethodDescriptor y.desc).map (fun d => d.parameters.length) = some np
def MI (y : MethodName) (bytes : ByteArray) (maxL : Nat) (np : Nat) : Prop :=
  Cond.code y bytes maxL none ∈ wsL_law ∧ Cond.instanceMethod y ∈ wsL_law ∧ Cond.initialized y.cls ∈ wsL_law ∧ y.name = "<init>" ∧ y.cls ≠ "java/lang/invoke/MethodHandle" ∧ y.cls ≠ "java/lang/invoke/VarHandle" ∧ (parseMethodDescriptor y.desc).map (fun d => d.parameters.length) = some np
def MS (y : MethodName) (bytes : ByteArray) (maxL : Nat) (r : Option FieldType) (np : Nat) : Prop :=
  Cond.code y bytes maxL r ∈ wsL_law ∧ Cond.static y ∈ wsL_law ∧ Cond.initialized y.cls ∈ wsL_law ∧ y.cls ≠ "java/lang/invoke/MethodHandle" ∧ y.cls ≠ "java/lang/invoke/VarHandle" ∧ (parseMethodDescriptor y.desc).map (fun d => d.parameters.length) = some np
/-- what comes behind a call: the rest, and the callee's world -/
theorem bh_join {wr w1 : va_W} {H1 : Heap} (hP : va_P G vwCl ws H) (hD : va_D A ws) (isC isR : List Nat) (hC : isC.map (fun i => ws[i]?) = pre.map some) (hR : isR.map (fun i => ws[i]?) = wr.map some) (hn : va_nd isR = true) (hdis : ∀ i ∈ isR, i ∉ isC)
    (hk : ∀ q : Nat, q < H.size → ¬ va_A pre H.size q → H1[q]? = H[q]?) (hF : ∀ q, va_A pre H.size q → A q) (hB : va_P G vwCl w1 H1 ∧ va_D (va_A pre H.size) w1) : va_P G vwCl (wr ++ w1) H1 ∧ va_D A (wr ++ w1) :=
  va_join hP hD isC isR hC hR hn hdis hk hF hB.1 hB.2
variable {y : MethodName} {bytes : ByteArray} {maxL index ci qb b : Nat} {r : FieldType} {rmy : Room} {As st : List Value} {wr : va_W} {fs : List Value} {qC : vw_C} {r0 : Option FieldType} {host : String}
theorem kVi {post : Int32 → va_W → Prop} (F : Fx p s m meth c args y0 cc nL r0) (hK : va_K G vwCl (tyk k) s) (hN : nst s) (hA : ∀ q, s.heap.size ≤ q → A q) (hM : CtI l G k y bytes maxL r rmy (.ref b :: As) pre post) (hy : MV y bytes maxL (some r) As.length) (hl : Cond.methodLink y0.cls index y ∈ wsL_law)
    (hroom : rmy.frames + 1 ≤ R.frames ∧ 8 + (maxL + 11) + rmy.locals ≤ R.locals) (hcs : cells + rmy.cells ≤ R.cells ∧ slots + rmy.slots ≤ R.slots) (hP : va_P G vwCl ws H) (hD : va_D A ws) (hS : va_S A s.heap H locs)
    (isC isR : List Nat) (hC : isC.map (fun i => ws[i]?) = pre.map some) (hC2 : isC.filterMap (fun i => ws[i]?) = pre) (hR : isR.map (fun i => ws[i]?) = wr.map some) (hnC : va_nd isC = true) (hnR : va_nd isR = true) (hdis : ∀ i ∈ isR, i ∉ isC)
    (qb : Nat) (hb0 : pre[qb]? = some (b, .inr (ci, fs))) (hcl : vwCl[ci]? = some qC) (hqC : qC.1 = y.cls) (hst : st = As.reverse ++ .ref b :: rest) (hsz : ls.size = nL) (hrest : (rest.map fun v => v.category).sum ≤ 8) (hdg : decode cc pc = .ok (.invokevirtual index, 3))
    (kk : ∀ (v : Int32) (w : va_W) (H1 : Heap) (locs1 : List Loc), post v w → va_P G vwCl (wr ++ w) H1 → va_D A (wr ++ w) → va_S A s.heap H1 locs1 → W p l e R s m args below meth c H1 locs1 (cells + rmy.cells) (slots + rmy.slots) Q (F0 m (pc + 3) ls (.int v :: rest))) :
    W p l e R s m args below meth c H locs cells slots Q (F0 m pc ls st) := by
  obtain ⟨hx, hb, hr, hml, hown, hlk, hw, -⟩ := F
  obtain ⟨k1, k2, k3, k4, k5, k6, k7⟩ := hy
  subst hst
  have hPc := hP.sub isC hC2
  have hDc := hD.sub isC hnC hC
  have hFc := va_free (wc := pre) hD hS hA isC hC
  have cw : CallW R s args y0.cls y.cls index y bytes maxL (some r) (wm y bytes maxL (some r)) rmy rmy.cells rmy.slots As.length := ⟨callB_of As.length hw (wm_good k1) rfl rfl rfl (hw _ k4) (hw _ hl) ⟨k5, k6, k7⟩ hroom, hw _ k2, hw _ k3⟩
  have hrc := va_recv hK hPc hcl hb0
  rw [hqC] at hrc
  refine va_calli (va_runV (nL := nL) ⟨hx, hb, hml, hown, hw⟩ (hM H.size) cw ⟨pw_blind, hrc, fun U hU hW => ⟨rfl, by rw [hU], by rw [hU]; exact hPc, va_K.moved hW.alike hK, hDc.weaken (fun _ _ _ _ => trivial), hN.warm hW⟩⟩ rfl rfl hsz rfl (by simpa [JFrame.monitorRoom] using hrest) hdg hcs) hS (fun q _ h => hFc q h) hFc (fun v u t H1 locs1 ht hvm hq hB hz1 hk1 hS1 => ?_)
  have hB' : va_P G vwCl u H1 ∧ va_D (va_A pre H.size) u := by obtain ⟨b1, b2⟩ := hB; rw [ht] at b1; exact ⟨b1, b2⟩
  obtain ⟨j1, j2⟩ := bh_join hP hD isC isR hC hR hnR hdis hk1 hFc hB'
  exact kk v u H1 locs1 hq j1 j2 hS1
theorem kVv {post : va_W → Prop} (F : Fx p s m meth c args y0 cc nL r0) (hK : va_K G vwCl (tyk k) s) (hN : nst s) (hA : ∀ q, s.heap.size ≤ q → A q) (hM : CtV l G k y bytes maxL rmy (.ref b :: As) pre post) (hy : MV y bytes maxL none As.length) (hl : Cond.methodLink y0.cls index y ∈ wsL_law)
    (hroom : rmy.frames + 1 ≤ R.frames ∧ 8 + (maxL + 11) + rmy.locals ≤ R.locals) (hcs : cells + rmy.cells ≤ R.cells ∧ slots + rmy.slots ≤ R.slots) (hP : va_P G vwCl ws H) (hD : va_D A ws) (hS : va_S A s.heap H locs)
    (isC isR : List Nat) (hC : isC.map (fun i => ws[i]?) = pre.map some) (hC2 : isC.filterMap (fun i => ws[i]?) = pre) (hR : isR.map (fun i => ws[i]?) = wr.map some) (hnC : va_nd isC = true) (hnR : va_nd isR = true) (hdis : ∀ i ∈ isR, i ∉ isC)
    (qb : Nat) (hb0 : pre[qb]? = some (b, .inr (ci, fs))) (hcl : vwCl[ci]? = some qC) (hqC : qC.1 = y.cls) (hst : st = As.reverse ++ .ref b :: rest) (hsz : ls.size = nL) (hrest : (rest.map fun v => v.category).sum ≤ 8) (hdg : decode cc pc = .ok (.invokevirtual index, 3))
    (kk : ∀ (w : va_W) (H1 : Heap) (locs1 : List Loc), post w → va_P G vwCl (wr ++ w) H1 → va_D A (wr ++ w) → va_S A s.heap H1 locs1 → W p l e R s m args below meth c H1 locs1 (cells + rmy.cells) (slots + rmy.slots) Q (F0 m (pc + 3) ls (rest))) :
    W p l e R s m args below meth c H locs cells slots Q (F0 m pc ls st) := by
  obtain ⟨hx, hb, hr, hml, hown, hlk, hw, -⟩ := F
  obtain ⟨k1, k2, k3, k4, k5, k6, k7⟩ := hy
  subst hst
  have hPc := hP.sub isC hC2
  have hDc := hD.sub isC hnC hC
  have hFc := va_free (wc := pre) hD hS hA isC hC
  have cw : CallW R s args y0.cls y.cls index y bytes maxL none (wm y bytes maxL none) rmy rmy.cells rmy.slots As.length := ⟨callB_of As.length hw (wm_good k1) rfl rfl rfl (hw _ k4) (hw _ hl) ⟨k5, k6, k7⟩ hroom, hw _ k2, hw _ k3⟩
  have hrc := va_recv hK hPc hcl hb0
  rw [hqC] at hrc
  refine va_callv (va_runV (nL := nL) ⟨hx, hb, hml, hown, hw⟩ (hM H.size) cw ⟨pw_blind, hrc, fun U hU hW => ⟨rfl, by rw [hU], by rw [hU]; exact hPc, va_K.moved hW.alike hK, hDc.weaken (fun _ _ _ _ => trivial), hN.warm hW⟩⟩ rfl rfl hsz rfl (by simpa [JFrame.monitorRoom] using hrest) hdg hcs) hS (fun q _ h => hFc q h) hFc (fun u t H1 locs1 ht hvm hq hB hz1 hk1 hS1 => ?_)
  have hB' : va_P G vwCl u H1 ∧ va_D (va_A pre H.size) u := by obtain ⟨b1, b2⟩ := hB; rw [ht] at b1; exact ⟨b1, b2⟩
  obtain ⟨j1, j2⟩ := bh_join hP hD isC isR hC hR hnR hdis hk1 hFc hB'
  exact kk u H1 locs1 hq j1 j2 hS1
theorem kVl {post : Int64 → va_W → Prop} (F : Fx p s m meth c args y0 cc nL r0) (hK : va_K G vwCl (tyk k) s) (hN : nst s) (hA : ∀ q, s.heap.size ≤ q → A q) (hM : CtL l G k y bytes maxL rmy (.ref b :: As) pre post) (hy : MV y bytes maxL (some .long) As.length) (hl : Cond.methodLink y0.cls index y ∈ wsL_law)
    (hroom : rmy.frames + 1 ≤ R.frames ∧ 8 + (maxL + 11) + rmy.locals ≤ R.locals) (hcs : cells + rmy.cells ≤ R.cells ∧ slots + rmy.slots ≤ R.slots) (hP : va_P G vwCl ws H) (hD : va_D A ws) (hS : va_S A s.heap H locs)
    (isC isR : List Nat) (hC : isC.map (fun i => ws[i]?) = pre.map some) (hC2 : isC.filterMap (fun i => ws[i]?) = pre) (hR : isR.map (fun i => ws[i]?) = wr.map some) (hnC : va_nd isC = true) (hnR : va_nd isR = true) (hdis : ∀ i ∈ isR, i ∉ isC)
    (qb : Nat) (hb0 : pre[qb]? = some (b, .inr (ci, fs))) (hcl : vwCl[ci]? = some qC) (hqC : qC.1 = y.cls) (hst : st = As.reverse ++ .ref b :: rest) (hsz : ls.size = nL) (hrest : (rest.map fun v => v.category).sum ≤ 8) (hdg : decode cc pc = .ok (.invokevirtual index, 3))
    (kk : ∀ (v : Int64) (w : va_W) (H1 : Heap) (locs1 : List Loc), post v w → va_P G vwCl (wr ++ w) H1 → va_D A (wr ++ w) → va_S A s.heap H1 locs1 → W p l e R s m args below meth c H1 locs1 (cells + rmy.cells) (slots + rmy.slots) Q (F0 m (pc + 3) ls (.long v :: rest))) :
    W p l e R s m args below meth c H locs cells slots Q (F0 m pc ls st) := by
  obtain ⟨hx, hb, hr, hml, hown, hlk, hw, -⟩ := F
  obtain ⟨k1, k2, k3, k4, k5, k6, k7⟩ := hy
  subst hst
  have hPc := hP.sub isC hC2
  have hDc := hD.sub isC hnC hC
  have hFc := va_free (wc := pre) hD hS hA isC hC
  have cw : CallW R s args y0.cls y.cls index y bytes maxL (some .long) (wm y bytes maxL (some .long)) rmy rmy.cells rmy.slots As.length := ⟨callB_of As.length hw (wm_good k1) rfl rfl rfl (hw _ k4) (hw _ hl) ⟨k5, k6, k7⟩ hroom, hw _ k2, hw _ k3⟩
  have hrc := va_recv hK hPc hcl hb0
  rw [hqC] at hrc
  refine va_calll (va_runV (nL := nL) ⟨hx, hb, hml, hown, hw⟩ (hM H.size) cw ⟨pw_blind, hrc, fun U hU hW => ⟨rfl, by rw [hU], by rw [hU]; exact hPc, va_K.moved hW.alike hK, hDc.weaken (fun _ _ _ _ => trivial), hN.warm hW⟩⟩ rfl rfl hsz rfl (by simpa [JFrame.monitorRoom] using hrest) hdg hcs) hS (fun q _ h => hFc q h) hFc (fun v u t H1 locs1 ht hvm hq hB hz1 hk1 hS1 => ?_)
  have hB' : va_P G vwCl u H1 ∧ va_D (va_A pre H.size) u := by obtain ⟨b1, b2⟩ := hB; rw [ht] at b1; exact ⟨b1, b2⟩
  obtain ⟨j1, j2⟩ := bh_join hP hD isC isR hC hR hnR hdis hk1 hFc hB'
  exact kk v u H1 locs1 hq j1 j2 hS1
theorem kSv {post : va_W → Prop} (F : Fx p s m meth c args y0 cc nL r0) (hK : va_K G vwCl (tyk k) s) (hN : nst s) (hA : ∀ q, s.heap.size ≤ q → A q) (hM : CtV l G k y bytes maxL rmy As pre post) (hy : MS y bytes maxL none As.length) (hl : Cond.methodLink y0.cls index y ∈ wsL_law)
    (hroom : rmy.frames + 1 ≤ R.frames ∧ 8 + (maxL + 11) + rmy.locals ≤ R.locals) (hcs : cells + rmy.cells ≤ R.cells ∧ slots + rmy.slots ≤ R.slots) (hP : va_P G vwCl ws H) (hD : va_D A ws) (hS : va_S A s.heap H locs)
    (isC isR : List Nat) (hC : isC.map (fun i => ws[i]?) = pre.map some) (hC2 : isC.filterMap (fun i => ws[i]?) = pre) (hR : isR.map (fun i => ws[i]?) = wr.map some) (hnC : va_nd isC = true) (hnR : va_nd isR = true) (hdis : ∀ i ∈ isR, i ∉ isC)
    (hst : st = As.reverse ++ rest) (hsz : ls.size = nL) (hrest : (rest.map fun v => v.category).sum ≤ 8) (hdg : decode cc pc = .ok (.invokestatic index, 3))
    (kk : ∀ (w : va_W) (H1 : Heap) (locs1 : List Loc), post w → va_P G vwCl (wr ++ w) H1 → va_D A (wr ++ w) → va_S A s.heap H1 locs1 → W p l e R s m args below meth c H1 locs1 (cells + rmy.cells) (slots + rmy.slots) Q (F0 m (pc + 3) ls (rest))) :
    W p l e R s m args below meth c H locs cells slots Q (F0 m pc ls st) := by
  obtain ⟨hx, hb, hr, hml, hown, hlk, hw, -⟩ := F
  obtain ⟨k1, k3, k4, k5, k6, k7⟩ := hy
  subst hst
  have hPc := hP.sub isC hC2
  have hDc := hD.sub isC hnC hC
  have hFc := va_free (wc := pre) hD hS hA isC hC
  have cw : CallB R s args y0.cls index y bytes maxL none (wm y bytes maxL none) rmy rmy.cells rmy.slots As.length ∧ (Cond.static y).before args s = true := ⟨callB_of As.length hw (wm_good k1) rfl rfl rfl (hw _ k4) (hw _ hl) ⟨k5, k6, k7⟩ hroom, hw _ k3⟩
  refine va_callv (va_runS (nL := nL) ⟨hx, hb, hml, hown, hw⟩ (hM H.size) cw ⟨pw_blind, fun U hU hW => ⟨rfl, by rw [hU], by rw [hU]; exact hPc, va_K.moved hW.alike hK, hDc.weaken (fun _ _ _ _ => trivial), hN.warm hW⟩⟩ rfl rfl hsz rfl (by simpa [JFrame.monitorRoom] using hrest) hdg hcs) hS (fun q _ h => hFc q h) hFc (fun u t H1 locs1 ht hvm hq hB hz1 hk1 hS1 => ?_)
  have hB' : va_P G vwCl u H1 ∧ va_D (va_A pre H.size) u := by obtain ⟨b1, b2⟩ := hB; rw [ht] at b1; exact ⟨b1, b2⟩
  obtain ⟨j1, j2⟩ := bh_join hP hD isC isR hC hR hnR hdis hk1 hFc hB'
  exact kk u H1 locs1 hq j1 j2 hS1
theorem kSi {post : Int32 → va_W → Prop} (F : Fx p s m meth c args y0 cc nL r0) (hK : va_K G vwCl (tyk k) s) (hN : nst s) (hA : ∀ q, s.heap.size ≤ q → A q) (hM : CtI l G k y bytes maxL r rmy As pre post) (hy : MS y bytes maxL (some r) As.length) (hl : Cond.methodLink y0.cls index y ∈ wsL_law)
    (hroom : rmy.frames + 1 ≤ R.frames ∧ 8 + (maxL + 11) + rmy.locals ≤ R.locals) (hcs : cells + rmy.cells ≤ R.cells ∧ slots + rmy.slots ≤ R.slots) (hP : va_P G vwCl ws H) (hD : va_D A ws) (hS : va_S A s.heap H locs)
    (isC isR : List Nat) (hC : isC.map (fun i => ws[i]?) = pre.map some) (hC2 : isC.filterMap (fun i => ws[i]?) = pre) (hR : isR.map (fun i => ws[i]?) = wr.map some) (hnC : va_nd isC = true) (hnR : va_nd isR = true) (hdis : ∀ i ∈ isR, i ∉ isC)
    (hst : st = As.reverse ++ rest) (hsz : ls.size = nL) (hrest : (rest.map fun v => v.category).sum ≤ 8) (hdg : decode cc pc = .ok (.invokestatic index, 3))
    (kk : ∀ (v : Int32) (w : va_W) (H1 : Heap) (locs1 : List Loc), post v w → va_P G vwCl (wr ++ w) H1 → va_D A (wr ++ w) → va_S A s.heap H1 locs1 → W p l e R s m args below meth c H1 locs1 (cells + rmy.cells) (slots + rmy.slots) Q (F0 m (pc + 3) ls (.int v :: rest))) :
    W p l e R s m args below meth c H locs cells slots Q (F0 m pc ls st) := by
  obtain ⟨hx, hb, hr, hml, hown, hlk, hw, -⟩ := F
  obtain ⟨k1, k3, k4, k5, k6, k7⟩ := hy
  subst hst
  have hPc := hP.sub isC hC2
  have hDc := hD.sub isC hnC hC
  have hFc := va_free (wc := pre) hD hS hA isC hC
  have cw : CallB R s args y0.cls index y bytes maxL (some r) (wm y bytes maxL (some r)) rmy rmy.cells rmy.slots As.length ∧ (Cond.static y).before args s = true := ⟨callB_of As.length hw (wm_good k1) rfl rfl rfl (hw _ k4) (hw _ hl) ⟨k5, k6, k7⟩ hroom, hw _ k3⟩
  refine va_calli (va_runS (nL := nL) ⟨hx, hb, hml, hown, hw⟩ (hM H.size) cw ⟨pw_blind, fun U hU hW => ⟨rfl, by rw [hU], by rw [hU]; exact hPc, va_K.moved hW.alike hK, hDc.weaken (fun _ _ _ _ => trivial), hN.warm hW⟩⟩ rfl rfl hsz rfl (by simpa [JFrame.monitorRoom] using hrest) hdg hcs) hS (fun q _ h => hFc q h) hFc (fun v u t H1 locs1 ht hvm hq hB hz1 hk1 hS1 => ?_)
  have hB' : va_P G vwCl u H1 ∧ va_D (va_A pre H.size) u := by obtain ⟨b1, b2⟩ := hB; rw [ht] at b1; exact ⟨b1, b2⟩
  obtain ⟨j1, j2⟩ := bh_join hP hD isC isR hC hR hnR hdis hk1 hFc hB'
  exact kk v u H1 locs1 hq j1 j2 hS1
theorem kSl {post : Int64 → va_W → Prop} (F : Fx p s m meth c args y0 cc nL r0) (hK : va_K G vwCl (tyk k) s) (hN : nst s) (hA : ∀ q, s.heap.size ≤ q → A q) (hM : CtL l G k y bytes maxL rmy As pre post) (hy : MS y bytes maxL (some .long) As.length) (hl : Cond.methodLink y0.cls index y ∈ wsL_law)
    (hroom : rmy.frames + 1 ≤ R.frames ∧ 8 + (maxL + 11) + rmy.locals ≤ R.locals) (hcs : cells + rmy.cells ≤ R.cells ∧ slots + rmy.slots ≤ R.slots) (hP : va_P G vwCl ws H) (hD : va_D A ws) (hS : va_S A s.heap H locs)
    (isC isR : List Nat) (hC : isC.map (fun i => ws[i]?) = pre.map some) (hC2 : isC.filterMap (fun i => ws[i]?) = pre) (hR : isR.map (fun i => ws[i]?) = wr.map some) (hnC : va_nd isC = true) (hnR : va_nd isR = true) (hdis : ∀ i ∈ isR, i ∉ isC)
    (hst : st = As.reverse ++ rest) (hsz : ls.size = nL) (hrest : (rest.map fun v => v.category).sum ≤ 8) (hdg : decode cc pc = .ok (.invokestatic index, 3))
    (kk : ∀ (v : Int64) (w : va_W) (H1 : Heap) (locs1 : List Loc), post v w → va_P G vwCl (wr ++ w) H1 → va_D A (wr ++ w) → va_S A s.heap H1 locs1 → W p l e R s m args below meth c H1 locs1 (cells + rmy.cells) (slots + rmy.slots) Q (F0 m (pc + 3) ls (.long v :: rest))) :
    W p l e R s m args below meth c H locs cells slots Q (F0 m pc ls st) := by
  obtain ⟨hx, hb, hr, hml, hown, hlk, hw, -⟩ := F
  obtain ⟨k1, k3, k4, k5, k6, k7⟩ := hy
  subst hst
  have hPc := hP.sub isC hC2
  have hDc := hD.sub isC hnC hC
  have hFc := va_free (wc := pre) hD hS hA isC hC
  have cw : CallB R s args y0.cls index y bytes maxL (some .long) (wm y bytes maxL (some .long)) rmy rmy.cells rmy.slots As.length ∧ (Cond.static y).before args s = true := ⟨callB_of As.length hw (wm_good k1) rfl rfl rfl (hw _ k4) (hw _ hl) ⟨k5, k6, k7⟩ hroom, hw _ k3⟩
  refine va_calll (va_runS (nL := nL) ⟨hx, hb, hml, hown, hw⟩ (hM H.size) cw ⟨pw_blind, fun U hU hW => ⟨rfl, by rw [hU], by rw [hU]; exact hPc, va_K.moved hW.alike hK, hDc.weaken (fun _ _ _ _ => trivial), hN.warm hW⟩⟩ rfl rfl hsz rfl (by simpa [JFrame.monitorRoom] using hrest) hdg hcs) hS (fun q _ h => hFc q h) hFc (fun v u t H1 locs1 ht hvm hq hB hz1 hk1 hS1 => ?_)
  have hB' : va_P G vwCl u H1 ∧ va_D (va_A pre H.size) u := by obtain ⟨b1, b2⟩ := hB; rw [ht] at b1; exact ⟨b1, b2⟩
  obtain ⟨j1, j2⟩ := bh_join hP hD isC isR hC hR hnR hdis hk1 hFc hB'
  exact kk v u H1 locs1 hq j1 j2 hS1
theorem kNv {post : va_W → Prop} (F : Fx p s m meth c args y0 cc nL r0) (hK : va_K G vwCl (tyk k) s) (hN : nst s) (hA : ∀ q, s.heap.size ≤ q → A q) (hM : CtV l G k y bytes maxL rmy As pre post) (hy : MS y bytes maxL none As.length) (hl : va_Nw (.methodLinkNest y0.cls index y host) s)
    (hroom : rmy.frames + 1 ≤ R.frames ∧ 8 + (maxL + 11) + rmy.locals ≤ R.locals) (hcs : cells + rmy.cells ≤ R.cells ∧ slots + rmy.slots ≤ R.slots) (hP : va_P G vwCl ws H) (hD : va_D A ws) (hS : va_S A s.heap H locs)
    (isC isR : List Nat) (hC : isC.map (fun i => ws[i]?) = pre.map some) (hC2 : isC.filterMap (fun i => ws[i]?) = pre) (hR : isR.map (fun i => ws[i]?) = wr.map some) (hnC : va_nd isC = true) (hnR : va_nd isR = true) (hdis : ∀ i ∈ isR, i ∉ isC)
    (hst : st = As.reverse ++ rest) (hsz : ls.size = nL) (hrest : (rest.map fun v => v.category).sum ≤ 8) (hdg : decode cc pc = .ok (.invokestatic index, 3))
    (kk : ∀ (w : va_W) (H1 : Heap) (locs1 : List Loc), post w → va_P G vwCl (wr ++ w) H1 → va_D A (wr ++ w) → va_S A s.heap H1 locs1 → W p l e R s m args below meth c H1 locs1 (cells + rmy.cells) (slots + rmy.slots) Q (F0 m (pc + 3) ls (rest))) :
    W p l e R s m args below meth c H locs cells slots Q (F0 m pc ls st) := by
  obtain ⟨hx, hb, hr, hml, hown, hlk, hw, -⟩ := F
  obtain ⟨k1, k3, k4, k5, k6, k7⟩ := hy
  subst hst
  have hPc := hP.sub isC hC2
  have hDc := hD.sub isC hnC hC
  have hFc := va_free (wc := pre) hD hS hA isC hC
  have cw : va_CN R s args y0.cls index y host bytes maxL none (wm y bytes maxL none) rmy rmy.cells rmy.slots As.length ∧ (Cond.static y).before args s = true ∧ True := ⟨va_cnB As.length hw (wm_good k1) rfl rfl rfl hl (hw _ k4) ⟨k5, k6, k7⟩ hroom, hw _ k3, trivial⟩
  refine va_callv (va_runSN (nL := nL) ⟨hx, hb, hml, hown, hw⟩ (hM H.size) cw ⟨pw_blind, fun U hU hW => ⟨rfl, by rw [hU], by rw [hU]; exact hPc, va_K.moved hW.alike hK, hDc.weaken (fun _ _ _ _ => trivial), hN.warm hW⟩⟩ rfl rfl hsz rfl (by simpa [JFrame.monitorRoom] using hrest) hdg hcs) hS (fun q _ h => hFc q h) hFc (fun u t H1 locs1 ht hvm hq hB hz1 hk1 hS1 => ?_)
  have hB' : va_P G vwCl u H1 ∧ va_D (va_A pre H.size) u := by obtain ⟨b1, b2⟩ := hB; rw [ht] at b1; exact ⟨b1, b2⟩
  obtain ⟨j1, j2⟩ := bh_join hP hD isC isR hC hR hnR hdis hk1 hFc hB'
  exact kk u H1 locs1 hq j1 j2 hS1
theorem kIv {post : va_W → Prop} (F : Fx p s m meth c args y0 cc nL r0) (hK : va_K G vwCl (tyk k) s) (hN : nst s) (hA : ∀ q, s.heap.size ≤ q → A q) (hM : CtV l G k y bytes maxL rmy (.ref b :: As) pre post) (hy : MI y bytes maxL As.length) (hl : Cond.methodLink y0.cls index y ∈ wsL_law)
    (hroom : rmy.frames + 1 ≤ R.frames ∧ 8 + (maxL + 11) + rmy.locals ≤ R.locals) (hcs : cells + rmy.cells ≤ R.cells ∧ slots + rmy.slots ≤ R.slots) (hP : va_P G vwCl ws H) (hD : va_D A ws) (hS : va_S A s.heap H locs)
    (isC isR : List Nat) (hC : isC.map (fun i => ws[i]?) = pre.map some) (hC2 : isC.filterMap (fun i => ws[i]?) = pre) (hR : isR.map (fun i => ws[i]?) = wr.map some) (hnC : va_nd isC = true) (hnR : va_nd isR = true) (hdis : ∀ i ∈ isR, i ∉ isC)
    (hst : st = As.reverse ++ .ref b :: rest) (hsz : ls.size = nL) (hrest : (rest.map fun v => v.category).sum ≤ 8) (hdg : decode cc pc = .ok (.invokespecial index, 3))
    (kk : ∀ (w : va_W) (H1 : Heap) (locs1 : List Loc), post w → va_P G vwCl (wr ++ w) H1 → va_D A (wr ++ w) → va_S A s.heap H1 locs1 → W p l e R s m args below meth c H1 locs1 (cells + rmy.cells) (slots + rmy.slots) Q (F0 m (pc + 3) ls (rest))) :
    W p l e R s m args below meth c H locs cells slots Q (F0 m pc ls st) := by
  obtain ⟨hx, hb, hr, hml, hown, hlk, hw, -⟩ := F
  obtain ⟨k1, k2, k4, k3, k5, k6, k7⟩ := hy
  subst hst
  have hPc := hP.sub isC hC2
  have hDc := hD.sub isC hnC hC
  have hFc := va_free (wc := pre) hD hS hA isC hC
  have cw : CallB R s args y0.cls index y bytes maxL none (wm y bytes maxL none) rmy rmy.cells rmy.slots As.length ∧ y.name = "<init>" ∧ (Cond.instanceMethod y).before args s = true := ⟨callB_of As.length hw (wm_good k1) rfl rfl rfl (hw _ k4) (hw _ hl) ⟨k5, k6, k7⟩ hroom, k3, hw _ k2⟩
  refine va_callv (va_runI (nL := nL) ⟨hx, hb, hml, hown, hw⟩ (hM H.size) cw ⟨pw_blind, fun U hU hW => ⟨rfl, by rw [hU], by rw [hU]; exact hPc, va_K.moved hW.alike hK, hDc.weaken (fun _ _ _ _ => trivial), hN.warm hW⟩⟩ rfl rfl hsz rfl (by simpa [JFrame.monitorRoom] using hrest) hdg hcs) hS (fun q _ h => hFc q h) hFc (fun u t H1 locs1 ht hvm hq hB hz1 hk1 hS1 => ?_)
  have hB' : va_P G vwCl u H1 ∧ va_D (va_A pre H.size) u := by obtain ⟨b1, b2⟩ := hB; rw [ht] at b1; exact ⟨b1, b2⟩
  obtain ⟨j1, j2⟩ := bh_join hP hD isC isR hC hR hnR hdis hk1 hFc hB'
  exact kk u H1 locs1 hq j1 j2 hS1
theorem kNI {post : va_W → Prop} (F : Fx p s m meth c args y0 cc nL r0) (hK : va_K G vwCl (tyk k) s) (hN : nst s) (hA : ∀ q, s.heap.size ≤ q → A q) (hM : CtV l G k y bytes maxL rmy (.ref b :: As) pre post) (hy : MI y bytes maxL As.length) (hl : va_Nw (.methodLinkNest y0.cls index y host) s)
    (hroom : rmy.frames + 1 ≤ R.frames ∧ 8 + (maxL + 11) + rmy.locals ≤ R.locals) (hcs : cells + rmy.cells ≤ R.cells ∧ slots + rmy.slots ≤ R.slots) (hP : va_P G vwCl ws H) (hD : va_D A ws) (hS : va_S A s.heap H locs)
    (isC isR : List Nat) (hC : isC.map (fun i => ws[i]?) = pre.map some) (hC2 : isC.filterMap (fun i => ws[i]?) = pre) (hR : isR.map (fun i => ws[i]?) = wr.map some) (hnC : va_nd isC = true) (hnR : va_nd isR = true) (hdis : ∀ i ∈ isR, i ∉ isC)
    (hst : st = As.reverse ++ .ref b :: rest) (hsz : ls.size = nL) (hrest : (rest.map fun v => v.category).sum ≤ 8) (hdg : decode cc pc = .ok (.invokespecial index, 3))
    (kk : ∀ (w : va_W) (H1 : Heap) (locs1 : List Loc), post w → va_P G vwCl (wr ++ w) H1 → va_D A (wr ++ w) → va_S A s.heap H1 locs1 → W p l e R s m args below meth c H1 locs1 (cells + rmy.cells) (slots + rmy.slots) Q (F0 m (pc + 3) ls (rest))) :
    W p l e R s m args below meth c H locs cells slots Q (F0 m pc ls st) := by
  obtain ⟨hx, hb, hr, hml, hown, hlk, hw, -⟩ := F
  obtain ⟨k1, k2, k4, k3, k5, k6, k7⟩ := hy
  subst hst
  have hPc := hP.sub isC hC2
  have hDc := hD.sub isC hnC hC
  have hFc := va_free (wc := pre) hD hS hA isC hC
  have cw : va_CN R s args y0.cls index y host bytes maxL none (wm y bytes maxL none) rmy rmy.cells rmy.slots As.length ∧ y.name = "<init>" ∧ (Cond.instanceMethod y).before args s = true := ⟨va_cnB As.length hw (wm_good k1) rfl rfl rfl hl (hw _ k4) ⟨k5, k6, k7⟩ hroom, k3, hw _ k2⟩
  refine va_callv (va_runIN (nL := nL) ⟨hx, hb, hml, hown, hw⟩ (hM H.size) cw ⟨pw_blind, fun U hU hW => ⟨rfl, by rw [hU], by rw [hU]; exact hPc, va_K.moved hW.alike hK, hDc.weaken (fun _ _ _ _ => trivial), hN.warm hW⟩⟩ rfl rfl hsz rfl (by simpa [JFrame.monitorRoom] using hrest) hdg hcs) hS (fun q _ h => hFc q h) hFc (fun u t H1 locs1 ht hvm hq hB hz1 hk1 hS1 => ?_)
  have hB' : va_P G vwCl u H1 ∧ va_D (va_A pre H.size) u := by obtain ⟨b1, b2⟩ := hB; rw [ht] at b1; exact ⟨b1, b2⟩
  obtain ⟨j1, j2⟩ := bh_join hP hD isC isR hC hR hnR hdis hk1 hFc hB'
  exact kk u H1 locs1 hq j1 j2 hS1
theorem nwI (F : Fx p s m meth c args y0 cc nL r0) (hK : va_K G vwCl (tyk k) s) (hA : ∀ q, s.heap.size ≤ q → A q) (harr : Cond.arrayClass .int ∈ wsL_law) (hP : va_P G vwCl ws H) (hD : va_D A ws) (hS : va_S A s.heap H locs) {n : Int32} (N : Nat) (hn : ¬ n < 0) (hN : n.toNatClampNeg = N) (hbytes : N * componentBytes .int ≤ 536870912) (hcells : cells + 1 ≤ R.cells) (hslots : slots + N ≤ R.slots) (hdg : decode cc pc = .ok (.newarray .int, 2))
    (kk : ∀ (q : Nat) (H1 : Heap), va_P G vwCl (ws ++ [(q, .inl (k 0, N, .inl (fun _ => 0)))]) H1 → va_D A (ws ++ [(q, .inl (k 0, N, .inl (fun _ => 0)))]) → va_S A s.heap H1 locs → W p l e R s m args below meth c H1 locs (cells + 1) (slots + N) Q (F0 m (pc + 2) ls (.ref q :: rest))) : W p l e R s m args below meth c H locs cells slots Q (F0 m pc ls (.int n :: rest)) := by
  obtain ⟨hx, hb, hr, hml, hown, hlk, hw, -⟩ := F
  refine va_newa (atype := .int) (ty := .int) hx hb (hw _ harr) rfl hK hP hD hS hA (a0 := (N, .inl (fun _ => 0))) (fun _ => rfl) hn hN hbytes hcells hslots hdg (fun q cA H1 hK1 hP1 hD1 hS1 => ?_)
  have e : cA = k 0 := Option.some.inj ((hK1.2 6 (cA, .int) rfl).2.symm.trans (hK.2 0 (k 0, .int) rfl).2)
  subst e
  exact kk q H1 hP1 hD1 hS1
theorem nwB (F : Fx p s m meth c args y0 cc nL r0) (hK : va_K G vwCl (tyk k) s) (hA : ∀ q, s.heap.size ≤ q → A q) (harr : Cond.arrayClass .byte ∈ wsL_law) (hP : va_P G vwCl ws H) (hD : va_D A ws) (hS : va_S A s.heap H locs) {n : Int32} (N : Nat) (hn : ¬ n < 0) (hN : n.toNatClampNeg = N) (hbytes : N * componentBytes .byte ≤ 536870912) (hcells : cells + 1 ≤ R.cells) (hslots : slots + N ≤ R.slots) (hdg : decode cc pc = .ok (.newarray .byte, 2))
    (kk : ∀ (q : Nat) (H1 : Heap), va_P G vwCl (ws ++ [(q, .inl (k 1, N, .inl (fun _ => 0)))]) H1 → va_D A (ws ++ [(q, .inl (k 1, N, .inl (fun _ => 0)))]) → va_S A s.heap H1 locs → W p l e R s m args below meth c H1 locs (cells + 1) (slots + N) Q (F0 m (pc + 2) ls (.ref q :: rest))) : W p l e R s m args below meth c H locs cells slots Q (F0 m pc ls (.int n :: rest)) := by
  obtain ⟨hx, hb, hr, hml, hown, hlk, hw, -⟩ := F
  refine va_newa (atype := .byte) (ty := .byte) hx hb (hw _ harr) rfl hK hP hD hS hA (a0 := (N, .inl (fun _ => 0))) (fun _ => rfl) hn hN hbytes hcells hslots hdg (fun q cA H1 hK1 hP1 hD1 hS1 => ?_)
  have e : cA = k 1 := Option.some.inj ((hK1.2 6 (cA, .byte) rfl).2.symm.trans (hK.2 1 (k 1, .byte) rfl).2)
  subst e
  exact kk q H1 hP1 hD1 hS1
theorem nwJ (F : Fx p s m meth c args y0 cc nL r0) (hK : va_K G vwCl (tyk k) s) (hA : ∀ q, s.heap.size ≤ q → A q) (harr : Cond.arrayClass .long ∈ wsL_law) (hP : va_P G vwCl ws H) (hD : va_D A ws) (hS : va_S A s.heap H locs) {n : Int32} (N : Nat) (hn : ¬ n < 0) (hN : n.toNatClampNeg = N) (hbytes : N * componentBytes .long ≤ 536870912) (hcells : cells + 1 ≤ R.cells) (hslots : slots + N ≤ R.slots) (hdg : decode cc pc = .ok (.newarray .long, 2))
    (kk : ∀ (q : Nat) (H1 : Heap), va_P G vwCl (ws ++ [(q, .inl (k 2, N, .inr (.inl (fun _ => 0))))]) H1 → va_D A (ws ++ [(q, .inl (k 2, N, .inr (.inl (fun _ => 0))))]) → va_S A s.heap H1 locs → W p l e R s m args below meth c H1 locs (cells + 1) (slots + N) Q (F0 m (pc + 2) ls (.ref q :: rest))) : W p l e R s m args below meth c H locs cells slots Q (F0 m pc ls (.int n :: rest)) := by
  obtain ⟨hx, hb, hr, hml, hown, hlk, hw, -⟩ := F
  refine va_newa (atype := .long) (ty := .long) hx hb (hw _ harr) rfl hK hP hD hS hA (a0 := (N, .inr (.inl (fun _ => 0)))) (fun _ => rfl) hn hN hbytes hcells hslots hdg (fun q cA H1 hK1 hP1 hD1 hS1 => ?_)
  have e : cA = k 2 := Option.some.inj ((hK1.2 6 (cA, .long) rfl).2.symm.trans (hK.2 2 (k 2, .long) rfl).2)
  subst e
  exact kk q H1 hP1 hD1 hS1
theorem nwZ (F : Fx p s m meth c args y0 cc nL r0) (hK : va_K G vwCl (tyk k) s) (hA : ∀ q, s.heap.size ≤ q → A q) (harr : Cond.arrayClass .boolean ∈ wsL_law) (hP : va_P G vwCl ws H) (hD : va_D A ws) (hS : va_S A s.heap H locs) {n : Int32} (N : Nat) (hn : ¬ n < 0) (hN : n.toNatClampNeg = N) (hbytes : N * componentBytes .boolean ≤ 536870912) (hcells : cells + 1 ≤ R.cells) (hslots : slots + N ≤ R.slots) (hdg : decode cc pc = .ok (.newarray .boolean, 2))
    (kk : ∀ (q : Nat) (H1 : Heap), va_P G vwCl (ws ++ [(q, .inl (k 3, N, .inl (fun _ => 0)))]) H1 → va_D A (ws ++ [(q, .inl (k 3, N, .inl (fun _ => 0)))]) → va_S A s.heap H1 locs → W p l e R s m args below meth c H1 locs (cells + 1) (slots + N) Q (F0 m (pc + 2) ls (.ref q :: rest))) : W p l e R s m args below meth c H locs cells slots Q (F0 m pc ls (.int n :: rest)) := by
  obtain ⟨hx, hb, hr, hml, hown, hlk, hw, -⟩ := F
  refine va_newa (atype := .boolean) (ty := .boolean) hx hb (hw _ harr) rfl hK hP hD hS hA (a0 := (N, .inl (fun _ => 0))) (fun _ => rfl) hn hN hbytes hcells hslots hdg (fun q cA H1 hK1 hP1 hD1 hS1 => ?_)
  have e : cA = k 3 := Option.some.inj ((hK1.2 6 (cA, .boolean) rfl).2.symm.trans (hK.2 3 (k 3, .boolean) rfl).2)
  subst e
  exact kk q H1 hP1 hD1 hS1
theorem nwR (F : Fx p s m meth c args y0 cc nL r0) (hK : va_K G vwCl (tyk k) s) (hN0 : nst s) (hA : ∀ q, s.heap.size ≤ q → A q) {index : Nat} (hlk : Cond.classLink y0.cls index RX2 ∈ wsL_law) (hP : va_P G vwCl ws H) (hD : va_D A ws) (hS : va_S A s.heap H locs) {n : Int32} (N : Nat) (hn : ¬ n < 0) (hN : n.toNatClampNeg = N) (hbytes : N * 4 ≤ 536870912) (hcells : cells + 1 ≤ R.cells) (hslots : slots + N ≤ R.slots) (hdg : decode cc pc = .ok (.anewarray index, 3))
    (kk : ∀ (q : Nat) (H1 : Heap), va_P G vwCl (ws ++ [(q, .inl (k 4, N, .inr (.inr (.inr (.inr (fun _ => none))))))]) H1 → va_D A (ws ++ [(q, .inl (k 4, N, .inr (.inr (.inr (.inr (fun _ => none))))))]) → va_S A s.heap H1 locs → W p l e R s m args below meth c H1 locs (cells + 1) (slots + N) Q (F0 m (pc + 3) ls (.ref q :: rest))) : W p l e R s m args below meth c H locs cells slots Q (F0 m pc ls (.int n :: rest)) := by
  obtain ⟨hx, hb, hr, hml, hown, -, hw, -⟩ := F
  refine va_newq hx hb hown (hw _ hlk) hN0.2.1 hK hP hD hS hA hn hN hbytes hcells hslots hdg (fun q cA H1 hK1 hP1 hD1 hS1 => ?_)
  have e : cA = k 4 := by
    obtain ⟨kA, comp, -, -, -, h1⟩ := (hK1.2 6 (cA, .object RX2) rfl).2
    obtain ⟨kB, comp2, -, -, -, h2⟩ := (hK.2 4 (k 4, .object RX2) rfl).2
    exact Option.some.inj (h1.symm.trans h2)
  subst e
  exact kk q H1 hP1 hD1 hS1
theorem nwS (F : Fx p s m meth c args y0 cc nL r0) (hK : va_K G vwCl (tyk k) s) (hN0 : nst s) (hA : ∀ q, s.heap.size ≤ q → A q) {index : Nat} (hlk : Cond.classLink y0.cls index RX5 ∈ wsL_law) (hP : va_P G vwCl ws H) (hD : va_D A ws) (hS : va_S A s.heap H locs) {n : Int32} (N : Nat) (hn : ¬ n < 0) (hN : n.toNatClampNeg = N) (hbytes : N * 4 ≤ 536870912) (hcells : cells + 1 ≤ R.cells) (hslots : slots + N ≤ R.slots) (hdg : decode cc pc = .ok (.anewarray index, 3))
    (kk : ∀ (q : Nat) (H1 : Heap), va_P G vwCl (ws ++ [(q, .inl (k 5, N, .inr (.inr (.inr (.inr (fun _ => none))))))]) H1 → va_D A (ws ++ [(q, .inl (k 5, N, .inr (.inr (.inr (.inr (fun _ => none))))))]) → va_S A s.heap H1 locs → W p l e R s m args below meth c H1 locs (cells + 1) (slots + N) Q (F0 m (pc + 3) ls (.ref q :: rest))) : W p l e R s m args below meth c H locs cells slots Q (F0 m pc ls (.int n :: rest)) := by
  obtain ⟨hx, hb, hr, hml, hown, -, hw, -⟩ := F
  refine va_newq hx hb hown (hw _ hlk) hN0.2.2 hK hP hD hS hA hn hN hbytes hcells hslots hdg (fun q cA H1 hK1 hP1 hD1 hS1 => ?_)
  have e : cA = k 5 := by
    obtain ⟨kA, comp, -, -, -, h1⟩ := (hK1.2 6 (cA, .object RX5) rfl).2
    obtain ⟨kB, comp2, -, -, -, h2⟩ := (hK.2 5 (k 5, .object RX5) rfl).2
    exact Option.some.inj (h1.symm.trans h2)
  subst e
  exact kk q H1 hP1 hD1 hS1
theorem stI (F : Fx p s m meth c args y0 cc nL r0) (hK : va_K G vwCl (tyk k) s) (hP : va_P G vwCl ws H) (hD : va_D A ws) (hS : va_S A s.heap H locs) (q0 : Nat) {n : Nat} {f : Nat → Int32} (ha : ws[q0]? = some (b, .inl (k 0, n, .inl (f)))) {i : Int32} {x : Int32} (hin : vp_in i n) (hdg : decode cc pc = .ok (.iastore, 1))
    (kk : ∀ (g : Nat → Int32), g = upd f i.toNatClampNeg x → ∀ (H1 : Heap) (locs1 : List Loc), va_P G vwCl (ws.set q0 (b, .inl (k 0, n, .inl (g)))) H1 → va_D A (ws.set q0 (b, .inl (k 0, n, .inl (g)))) → va_S A s.heap H1 locs1 → W p l e R s m args below meth c H1 locs1 cells slots Q (F0 m (pc + 1) ls rest)) : W p l e R s m args below meth c H locs cells slots Q (F0 m pc ls (.int x :: .int i :: .ref b :: rest)) := by
  obtain ⟨hx, hb, -⟩ := F
  exact va_iast hx hb hK hP hD hS q0 0 ha rfl hin hdg (fun H1 locs1 h1 h2 h3 => kk _ rfl H1 locs1 h1 h2 h3)
theorem stB (F : Fx p s m meth c args y0 cc nL r0) (hK : va_K G vwCl (tyk k) s) (hP : va_P G vwCl ws H) (hD : va_D A ws) (hS : va_S A s.heap H locs) (q0 : Nat) {n : Nat} {f : Nat → Int32} (ha : ws[q0]? = some (b, .inl (k 1, n, .inl (f)))) {i : Int32} {x : Int32} (hin : vp_in i n) (hdg : decode cc pc = .ok (.bastore, 1))
    (kk : ∀ (g : Nat → Int32), g = upd f i.toNatClampNeg (vp_nar .byte x) → ∀ (H1 : Heap) (locs1 : List Loc), va_P G vwCl (ws.set q0 (b, .inl (k 1, n, .inl (g)))) H1 → va_D A (ws.set q0 (b, .inl (k 1, n, .inl (g)))) → va_S A s.heap H1 locs1 → W p l e R s m args below meth c H1 locs1 cells slots Q (F0 m (pc + 1) ls rest)) : W p l e R s m args below meth c H locs cells slots Q (F0 m pc ls (.int x :: .int i :: .ref b :: rest)) := by
  obtain ⟨hx, hb, -⟩ := F
  exact va_bast hx hb hK hP hD hS q0 1 ha rfl hin hdg (fun H1 locs1 h1 h2 h3 => kk _ rfl H1 locs1 h1 h2 h3)
theorem stZ (F : Fx p s m meth c args y0 cc nL r0) (hK : va_K G vwCl (tyk k) s) (hP : va_P G vwCl ws H) (hD : va_D A ws) (hS : va_S A s.heap H locs) (q0 : Nat) {n : Nat} {f : Nat → Int32} (ha : ws[q0]? = some (b, .inl (k 3, n, .inl (f)))) {i : Int32} {x : Int32} (hin : vp_in i n) (hdg : decode cc pc = .ok (.bastore, 1))
    (kk : ∀ (g : Nat → Int32), g = upd f i.toNatClampNeg (vp_nar .boolean x) → ∀ (H1 : Heap) (locs1 : List Loc), va_P G vwCl (ws.set q0 (b, .inl (k 3, n, .inl (g)))) H1 → va_D A (ws.set q0 (b, .inl (k 3, n, .inl (g)))) → va_S A s.heap H1 locs1 → W p l e R s m args below meth c H1 locs1 cells slots Q (F0 m (pc + 1) ls rest)) : W p l e R s m args below meth c H locs cells slots Q (F0 m pc ls (.int x :: .int i :: .ref b :: rest)) := by
  obtain ⟨hx, hb, -⟩ := F
  exact va_zast hx hb hK hP hD hS q0 3 ha rfl hin hdg (fun H1 locs1 h1 h2 h3 => kk _ rfl H1 locs1 h1 h2 h3)
theorem stJ (F : Fx p s m meth c args y0 cc nL r0) (hK : va_K G vwCl (tyk k) s) (hP : va_P G vwCl ws H) (hD : va_D A ws) (hS : va_S A s.heap H locs) (q0 : Nat) {n : Nat} {f : Nat → Int64} (ha : ws[q0]? = some (b, .inl (k 2, n, .inr (.inl (f))))) {i : Int32} {x : Int64} (hin : vp_in i n) (hdg : decode cc pc = .ok (.lastore, 1))
    (kk : ∀ (g : Nat → Int64), g = vp_updL f i.toNatClampNeg x → ∀ (H1 : Heap) (locs1 : List Loc), va_P G vwCl (ws.set q0 (b, .inl (k 2, n, .inr (.inl (g))))) H1 → va_D A (ws.set q0 (b, .inl (k 2, n, .inr (.inl (g))))) → va_S A s.heap H1 locs1 → W p l e R s m args below meth c H1 locs1 cells slots Q (F0 m (pc + 1) ls rest)) : W p l e R s m args below meth c H locs cells slots Q (F0 m pc ls (.long x :: .int i :: .ref b :: rest)) := by
  obtain ⟨hx, hb, -⟩ := F
  exact va_last hx hb hK hP hD hS q0 2 ha rfl hin hdg (fun H1 locs1 h1 h2 h3 => kk _ rfl H1 locs1 h1 h2 h3)
theorem wloop {σ : Type} (inv : Nat → σ → Heap → List Loc → Array Slot → Prop) (step : ∀ n : Nat, (∀ (x : σ) (H : Heap) (locs : List Loc) (ls : Array Slot), inv n x H locs ls → W p l e R s m args below meth c H locs cells slots Q (F0 m pc ls [])) → ∀ (x : σ) (H : Heap) (locs : List Loc) (ls : Array Slot), inv (n + 1) x H locs ls → W p l e R s m args below meth c H locs cells slots Q (F0 m pc ls []))
    (zero : ∀ (x : σ) (H : Heap) (locs : List Loc) (ls : Array Slot), ¬ inv 0 x H locs ls) (n : Nat) (x : σ) (h : inv n x H locs ls) : W p l e R s m args below meth c H locs cells slots Q (F0 m pc ls []) := by
  have key : ∀ n : Nat, ∀ (x : σ) (H : Heap) (locs : List Loc) (ls : Array Slot), inv n x H locs ls → W p l e R s m args below meth c H locs cells slots Q (F0 m pc ls []) := by
    intro n
    induction n with
    | zero => intro x H locs ls h; exact absurd h (zero x H locs ls)
    | succ n ih => exact step n ih
  exact key n x H locs ls h
theorem rdc {f : Nat → Int32} {i : Int32} {j : Nat} {v : Int32} (h : i.toNatClampNeg = j) (hf : f j = v) : f i.toNatClampNeg = v := h ▸ hf
theorem rdl {f : Nat → Int64} {i : Int32} {j : Nat} {v : Int64} (h : i.toNatClampNeg = j) (hf : f j = v) : f i.toNatClampNeg = v := h ▸ hf
theorem rdq {f : Nat → Option Nat} {i : Int32} {j v : Nat} (h : i.toNatClampNeg = j) (hf : f j = some v) : va_rf (f i.toNatClampNeg) :: rest = .ref v :: rest := by rw [h, hf]; rfl
theorem ii1 (i : Nat) : nI i + Int32.ofInt 1 = nI (i + 1) := nI_1 i
theorem upd_self {f : Nat → Int32} {j : Nat} {v : Int32} : upd f j v j = v := by simp [upd]
theorem upd_ne {f : Nat → Int32} {j q : Nat} {v : Int32} (h : q ≠ j) : upd f j v q = f q := by simp [upd, h]
end BASE
