/-! rows that hold just this -/
abbrev xD (n : Nat) (F : Nat → Int32) : TD := .inr (.inl (0, n, fun f => f = F))
abbrev xB (n : Nat) (F : Nat → Int32) : TD := .inr (.inl (1, n, fun f => f = F))
abbrev xZ (n : Nat) (F : Nat → Int32) : TD := .inr (.inl (3, n, fun f => f = F))
def gI (F : Nat → Int32) (j : Nat) : Int := (F j).toInt
section MBASE
variable {p : Program} {e : Env} {R : Room} {s : State} {m : MethodId} {args : Array Value} {below : List Frame} {meth : Method} {c : Code} {H : Heap} {locs : List Loc} {cells slots : Nat} {Q : State → Prop}
variable {E : Ev} {TB : List TD} {cc : ByteArray} {pc : Nat} {ls : Array Slot} {rest : List Value} {y0 : MethodName} {nL b n : Nat} {r0 : Option FieldType} {i x : Int32} {X : Nat → Int32}
theorem topE {l : Launch} (kk : ∀ z : Int32, z = x → W p l e R s m args below meth c H locs cells slots Q (F0 m pc ls (.int z :: rest))) : W p l e R s m args below meth c H locs cells slots Q (F0 m pc ls (.int x :: rest)) := kk x rfl
theorem tIaldX (F : Fx p s m meth c args y0 cc nL r0) (hK : va_K (eG E) vwCl (tyk (eK E)) s) (hH : TH E TB H) (hb : TB[eT E b]? = some (xD n X)) (hix : 0 ≤ i.toInt ∧ i.toInt < n) (hdg : decode cc pc = .ok (.iaload, 1))
    (kk : ∀ v : Int32, v = X i.toNatClampNeg → W p (eL E) e R s m args below meth c H locs cells slots Q (F0 m (pc + 1) ls (.int v :: rest))) : W p (eL E) e R s m args below meth c H locs cells slots Q (F0 m pc ls (.int i :: .ref b :: rest)) :=
  tIald F hK hH hb hix hdg (fun f hf => kk _ (by rw [hf]))
theorem tIastX {t : Nat} (F : Fx p s m meth c args y0 cc nL r0) (hK : va_K (eG E) vwCl (tyk (eK E)) s) (hH : TH E TB H) (hS : va_S (eA E s.heap.size) s.heap H locs) (ht : eT E b = t) (h24 : 24 ≤ t) (hb : TB[t]? = some (xD n X)) (hix : 0 ≤ i.toInt ∧ i.toInt < n) (hdg : decode cc pc = .ok (.iastore, 1))
    (kk : ∀ N : Nat → Int32, N = upd X i.toNatClampNeg x → ∀ (H1 : Heap) (locs1 : List Loc), TH E (TB.set t (xD n N)) H1 → va_S (eA E s.heap.size) s.heap H1 locs1 → W p (eL E) e R s m args below meth c H1 locs1 cells slots Q (F0 m (pc + 1) ls rest)) : W p (eL E) e R s m args below meth c H locs cells slots Q (F0 m pc ls (.int x :: .int i :: .ref b :: rest)) :=
  tIastG (P1 := fun f => f = upd X i.toNatClampNeg x) F hK hH hS ht h24 hb hix (fun f hf => by rw [hf]) rfl hdg (fun H1 locs1 h1 h2 => kk _ rfl H1 locs1 h1 h2)
theorem tBaldX (F : Fx p s m meth c args y0 cc nL r0) (hK : va_K (eG E) vwCl (tyk (eK E)) s) (hH : TH E TB H) (hb : TB[eT E b]? = some (xB n X)) (hix : 0 ≤ i.toInt ∧ i.toInt < n) (hdg : decode cc pc = .ok (.baload, 1))
    (kk : ∀ v : Int32, v = X i.toNatClampNeg → W p (eL E) e R s m args below meth c H locs cells slots Q (F0 m (pc + 1) ls (.int v :: rest))) : W p (eL E) e R s m args below meth c H locs cells slots Q (F0 m pc ls (.int i :: .ref b :: rest)) := by
  obtain ⟨hx, hb0, -⟩ := F
  obtain ⟨ws, w, e1, -, hP, hD, hT, hw, f, rfl, hf⟩ := hH.at hb
  exact va_bald hx hb0 hK hP w 1 hw rfl (vinT hix) hdg (kk _ (by rw [hf]))
theorem tBastX {t : Nat} (F : Fx p s m meth c args y0 cc nL r0) (hK : va_K (eG E) vwCl (tyk (eK E)) s) (hH : TH E TB H) (hS : va_S (eA E s.heap.size) s.heap H locs) (ht : eT E b = t) (h24 : 24 ≤ t) (hb : TB[t]? = some (xB n X)) (hix : 0 ≤ i.toInt ∧ i.toInt < n) (hdg : decode cc pc = .ok (.bastore, 1))
    (kk : ∀ N : Nat → Int32, N = upd X i.toNatClampNeg (vp_nar .byte x) → ∀ (H1 : Heap) (locs1 : List Loc), TH E (TB.set t (xB n N)) H1 → va_S (eA E s.heap.size) s.heap H1 locs1 → W p (eL E) e R s m args below meth c H1 locs1 cells slots Q (F0 m (pc + 1) ls rest)) : W p (eL E) e R s m args below meth c H locs cells slots Q (F0 m pc ls (.int x :: .int i :: .ref b :: rest)) := by
  obtain ⟨hx, hb0, -⟩ := F
  subst ht
  obtain ⟨ws, w, e1, hlen0, hP, hD, hT, hw, f, rfl, hf⟩ := hH.at hb
  refine va_bast hx hb0 hK hP (Typed.dom hlen0.1 hT hD s.heap.size) hS w 1 hw rfl (vinT hix) hdg (fun H1 locs1 hP2 hD1 hS1 => kk _ rfl H1 locs1 ?_ hS1)
  exact ⟨⟨by rw [List.length_set]; exact hlen0.1, hlen0.2⟩, _, hP2, va_Dset hD hw, hT.putG hD hw hb (fun a ha => (hlen0.2 b a h24 (by rw [← hlen0.1]; exact (List.getElem?_eq_some_iff.mp hb).1) ha.symm).symm) ⟨_, rfl, by rw [hf]⟩⟩
theorem tZaldX (F : Fx p s m meth c args y0 cc nL r0) (hK : va_K (eG E) vwCl (tyk (eK E)) s) (hH : TH E TB H) (hb : TB[eT E b]? = some (xZ n X)) (hix : 0 ≤ i.toInt ∧ i.toInt < n) (hdg : decode cc pc = .ok (.baload, 1))
    (kk : ∀ v : Int32, v = X i.toNatClampNeg → W p (eL E) e R s m args below meth c H locs cells slots Q (F0 m (pc + 1) ls (.int v :: rest))) : W p (eL E) e R s m args below meth c H locs cells slots Q (F0 m pc ls (.int i :: .ref b :: rest)) := by
  obtain ⟨hx, hb0, -⟩ := F
  obtain ⟨ws, w, e1, -, hP, hD, hT, hw, f, rfl, hf⟩ := hH.at hb
  exact va_zald hx hb0 hK hP w 3 hw rfl (vinT hix) hdg (kk _ (by rw [hf]))
theorem tZastX {t : Nat} (F : Fx p s m meth c args y0 cc nL r0) (hK : va_K (eG E) vwCl (tyk (eK E)) s) (hH : TH E TB H) (hS : va_S (eA E s.heap.size) s.heap H locs) (ht : eT E b = t) (h24 : 24 ≤ t) (hb : TB[t]? = some (xZ n X)) (hix : 0 ≤ i.toInt ∧ i.toInt < n) (hdg : decode cc pc = .ok (.bastore, 1))
    (kk : ∀ N : Nat → Int32, N = upd X i.toNatClampNeg (vp_nar .boolean x) → ∀ (H1 : Heap) (locs1 : List Loc), TH E (TB.set t (xZ n N)) H1 → va_S (eA E s.heap.size) s.heap H1 locs1 → W p (eL E) e R s m args below meth c H1 locs1 cells slots Q (F0 m (pc + 1) ls rest)) : W p (eL E) e R s m args below meth c H locs cells slots Q (F0 m pc ls (.int x :: .int i :: .ref b :: rest)) := by
  obtain ⟨hx, hb0, -⟩ := F
  subst ht
  obtain ⟨ws, w, e1, hlen0, hP, hD, hT, hw, f, rfl, hf⟩ := hH.at hb
  refine va_zast hx hb0 hK hP (Typed.dom hlen0.1 hT hD s.heap.size) hS w 3 hw rfl (vinT hix) hdg (fun H1 locs1 hP2 hD1 hS1 => kk _ rfl H1 locs1 ?_ hS1)
  exact ⟨⟨by rw [List.length_set]; exact hlen0.1, hlen0.2⟩, _, hP2, va_Dset hD hw, hT.putG hD hw hb (fun a ha => (hlen0.2 b a h24 (by rw [← hlen0.1]; exact (List.getElem?_eq_some_iff.mp hb).1) ha.symm).symm) ⟨_, rfl, by rw [hf]⟩⟩
/-- what a row of the one cell of its kind holds gets a name -/
theorem TH.pin {t k0 : Nat} {P : (Nat → Int32) → Prop} (h : TH E TB H) (hb : TB[t]? = some (.inr (.inl (k0, n, P)))) (hex : ∃ a, eT E a = t) (h24 : 24 ≤ t) : ∃ X, P X ∧ TH E (TB.set t (.inr (.inl (k0, n, fun f => f = X)))) H := by
  obtain ⟨a, ha⟩ := hex
  subst ha
  obtain ⟨ws, i, e1, hl, hP, hD, hT, hi, f, rfl, hf⟩ := h.at hb
  have hil := (List.getElem?_eq_some_iff.mp hi).1
  have htl := (List.getElem?_eq_some_iff.mp hb).1
  refine ⟨f, hf, ⟨⟨by rw [List.length_set]; exact hl.1, hl.2⟩, ws, hP, hD, fun j q hj => ?_, fun a ha => hT.2 a (by rw [List.length_set] at ha; exact ha)⟩⟩
  obtain ⟨d, h2, h3⟩ := hT.1 j q hj
  by_cases e : eT E a = eT E q.1
  · have hq : a = q.1 := hl.2 a q.1 h24 (by rw [← hl.1]; exact htl) e
    have hij : i = j := hD.1 i j _ _ hi hj hq
    subst hij
    rw [hi] at hj
    cases hj
    exact ⟨.inr (.inl (k0, n, fun g => g = f)), by rw [List.getElem?_set_self htl], f, rfl, rfl⟩
  · exact ⟨d, by rw [List.getElem?_set_ne e]; exact h2, h3⟩
theorem TH.pinF {t ci j : Nat} {fds : List FD} {lo hi : Int} (h : TH E TB H) (hb : TB[t]? = some (.inl (ci, fds))) (hj : fds[j]? = some (.inl (lo, hi))) (hex : ∃ a, eT E a = t) (h24 : 24 ≤ t) : ∃ x : Int, (lo ≤ x ∧ x ≤ hi) ∧ TH E (TB.set t (.inl (ci, fds.set j (.inl (x, x))))) H := by
  obtain ⟨a, ha⟩ := hex
  subst ha
  obtain ⟨ws, i, e1, hl, hP, hD, hT, hi1, fs, rfl, hlen, hfs⟩ := h.at hb
  obtain ⟨v, hv, x, rfl, h1, h2⟩ := hfs j _ hj
  have htl := (List.getElem?_eq_some_iff.mp hb).1
  refine ⟨x.toInt, ⟨h1, h2⟩, ⟨⟨by rw [List.length_set]; exact hl.1, hl.2⟩, ws, hP, hD, fun k q hk => ?_, fun a ha => hT.2 a (by rw [List.length_set] at ha; exact ha)⟩⟩
  obtain ⟨d, h3, h4⟩ := hT.1 k q hk
  by_cases e : eT E a = eT E q.1
  · have hq : a = q.1 := hl.2 a q.1 h24 (by rw [← hl.1]; exact htl) e
    have hik : i = k := hD.1 i k _ _ hi1 hk hq
    subst hik
    rw [hi1] at hk
    cases hk
    refine ⟨.inl (ci, fds.set j (.inl (x.toInt, x.toInt))), by rw [List.getElem?_set_self htl], fs, rfl, by simp [hlen], fun w fd hw => ?_⟩
    by_cases hjw : j = w
    · subst hjw
      rw [List.getElem?_set_self (List.getElem?_eq_some_iff.mp hj).1] at hw
      cases hw
      exact ⟨_, hv, x, rfl, Int.le_refl _, Int.le_refl _⟩
    · rw [List.getElem?_set_ne hjw] at hw
      exact hfs w fd hw
  · exact ⟨d, by rw [List.getElem?_set_ne e]; exact h3, h4⟩
theorem TH.unpin {t k0 : Nat} {P : (Nat → Int32) → Prop} {TB1 : List TD} (h : TH E TB H) (hb : TB[t]? = some (.inr (.inl (k0, n, fun f => f = X)))) (hP : P X) (h1 : TB.set t (.inr (.inl (k0, n, P))) = TB1) : TH E TB1 H :=
  h.loose hb (fun e he => by
    obtain ⟨f, rfl, rfl⟩ := he
    exact ⟨f, rfl, hP⟩) h1
/-- the same, also where no cell is of this kind -/
theorem TH.pin0 {t k0 : Nat} {P : (Nat → Int32) → Prop} (X0 : Nat → Int32) (h : TH E TB H) (hb : TB[t]? = some (.inr (.inl (k0, n, P)))) (h24 : 24 ≤ t) (h0 : P X0) : ∃ X, P X ∧ TH E (TB.set t (.inr (.inl (k0, n, fun f => f = X)))) H := by
  by_cases hex : ∃ a, eT E a = t
  · exact h.pin hb hex h24
  · refine ⟨X0, h0, ?_⟩
    obtain ⟨⟨hl, hu⟩, ws, hP, hD, hT⟩ := h
    refine ⟨⟨by rw [List.length_set]; exact hl, hu⟩, ws, hP, hD, fun j q hj => ?_, fun a ha => hT.2 a (by rw [List.length_set] at ha; exact ha)⟩
    obtain ⟨d, h2, h3⟩ := hT.1 j q hj
    exact ⟨d, by rw [List.getElem?_set_ne (fun e => hex ⟨q.1, e.symm⟩)]; exact h2, h3⟩
/-- a reference of the one cell of its kind: of the one kind or of the other -/
theorem TH.splitR {t ci j t1 t2 : Nat} {fds : List FD} (h : TH E TB H) (hb : TB[t]? = some (.inl (ci, fds))) (hj : fds[j]? = some (.inr [t1, t2])) (hex : ∃ a, eT E a = t) (h24 : 24 ≤ t) : TH E (TB.set t (.inl (ci, fds.set j (.inr [t1])))) H ∨ TH E (TB.set t (.inl (ci, fds.set j (.inr [t2])))) H := by
  obtain ⟨a, ha⟩ := hex
  subst ha
  obtain ⟨ws, i, e1, hl, hP, hD, hT, hi1, fs, rfl, hlen, hfs⟩ := h.at hb
  obtain ⟨v, hv, q0, rfl, h1⟩ := hfs j _ hj
  have htl := (List.getElem?_eq_some_iff.mp hb).1
  have key : ∀ t0, eT E q0 = t0 → TH E (TB.set (eT E a) (.inl (ci, fds.set j (.inr [t0])))) H := by
    intro t0 ht0
    refine ⟨⟨by rw [List.length_set]; exact hl.1, hl.2⟩, ws, hP, hD, fun k q hk => ?_, fun a ha => hT.2 a (by rw [List.length_set] at ha; exact ha)⟩
    obtain ⟨d, h3, h4⟩ := hT.1 k q hk
    by_cases e : eT E a = eT E q.1
    · have hq : a = q.1 := hl.2 a q.1 h24 (by rw [← hl.1]; exact htl) e
      have hik : i = k := hD.1 i k _ _ hi1 hk hq
      subst hik
      rw [hi1] at hk
      cases hk
      refine ⟨.inl (ci, fds.set j (.inr [t0])), by rw [List.getElem?_set_self htl], fs, rfl, by simp [hlen], fun w fd hw => ?_⟩
      by_cases hjw : j = w
      · subst hjw
        rw [List.getElem?_set_self (List.getElem?_eq_some_iff.mp hj).1] at hw
        cases hw
        exact ⟨_, hv, q0, rfl, List.mem_singleton.mpr ht0⟩
      · rw [List.getElem?_set_ne hjw] at hw
        exact hfs w fd hw
    · exact ⟨d, by rw [List.getElem?_set_ne e]; exact h3, h4⟩
  rcases List.mem_cons.mp h1 with e | e
  · exact Or.inl (key _ e)
  · exact Or.inr (key _ (List.mem_singleton.mp e))
theorem tDivV {y : Int32} (F : Fx p s m meth c args y0 cc nL r0) (hdg : decode cc pc = .ok (.idiv, 1)) (hy : 0 < y.toInt) (kk : ∀ z : Int32, (10 ≤ z.toInt → 10 * y.toInt ≤ x.toInt) → W p (eL E) e R s m args below meth c H locs cells slots Q (F0 m (pc + 1) ls (.int z :: rest))) : W p (eL E) e R s m args below meth c H locs cells slots Q (F0 m pc ls (.int y :: .int x :: rest)) := by
  refine lv_idiv F.1 F.2.1 hdg (i_ne0 (by omega)) (kk _ (fun h => ?_))
  have e1 : (x / y).toInt = x.toInt.tdiv y.toInt := Int32.toInt_div_of_ne_right _ _ (fun h => by rw [h] at hy; exact absurd hy (by decide))
  rw [e1] at h
  by_cases hx : 0 ≤ x.toInt
  · rw [Int.tdiv_eq_ediv_of_nonneg hx] at h
    have h2 := Int.ediv_mul_le x.toInt (b := y.toInt) (by omega)
    have h3 : 10 * y.toInt ≤ x.toInt / y.toInt * y.toInt := Int.mul_le_mul_of_nonneg_right h (by omega)
    omega
  · have h2 := Int.tdiv_nonneg (a := -x.toInt) (b := y.toInt) (by omega) (by omega)
    rw [Int.neg_tdiv] at h2
    omega
end MBASE
theorem ivP_updE {n w : Nat} {lo hi : Int} {X N : Nat → Int32} {x : Int32} (h : ivP n lo hi X) (e : N = upd X w x) (hx : lo ≤ x.toInt ∧ x.toInt ≤ hi) : ivP n lo hi N := e ▸ ivP_upd h hx
