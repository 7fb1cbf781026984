/-! the reference's row on an empty river -/
def e0 (f : Nat → Int32) : Prop := f 0 = 0 ∧ f 1 = 0 ∧ f 2 = 0
def em (f : Nat → Int32) (d h : Nat) (w : Int32) : Prop := e0 f ∧ f 3 = nI d ∧ f 4 = w ∧ f 5 = nI h ∧ d < 360 ∧ h < 31
theorem copy_step {f g g2 : Nat → Int32} {i : Nat} {z : Int32} (hi : i < 2147483648) (ez : z = f (nI i).toNatClampNeg) (eg : g2 = upd g (nI i).toNatClampNeg z) (h : ∀ j, j < i → g j = f j) : ∀ j, j < i + 1 → g2 j = f j := by
  intro j hj
  rw [nI_clamp hi] at ez eg
  rw [eg]
  by_cases q : j = i
  · subst q; rw [upd_self, ez]
  · rw [upd_ne q]; exact h j (by omega)
theorem fill_step {g g2 : Nat → Int32} {i : Nat} {c : Int32} (hi : i < 2147483648) (eg : g2 = upd g (nI i).toNatClampNeg c) (h : ∀ j, j < i → g j = c) : ∀ j, j < i + 1 → g2 j = c := by
  intro j hj
  rw [nI_clamp hi] at eg
  rw [eg]
  by_cases q : j = i
  · subst q; rw [upd_self]
  · rw [upd_ne q]; exact h j (by omega)
theorem keep6 {f g g2 : Nat → Int32} {q : Nat} {v : Int32} (hq : 6 ≤ q) (hq2 : q < 2147483648) (e : g2 = upd g (nI q).toNatClampNeg v) (h : ∀ j, j < 6 → g j = f j) : ∀ j, j < 6 → g2 j = f j := by
  intro j hj
  rw [nI_clamp hq2] at e
  rw [e, upd_ne (by omega)]
  exact h j hj
theorem nI_mulN (a b : Nat) : nI a * nI b = nI (a * b) := by
  apply Int32.toBitVec_inj.mp
  simp [nI, Int32.toBitVec_mul, Int32.toBitVec_ofNat, BitVec.ofNat_mul]
theorem rem31 (h : Nat) (hh : h < 31) : nI (h + 1) % 31 = nI ((h + 1) % 31) := by
  have key : ∀ h, h < 31 → nI (h + 1) % 31 = nI ((h + 1) % 31) := by decide
  exact key h hh
theorem l_ltc {x c : Int32} {C : Int64} (e : c.toInt64 = C) (h : x < c) : x.toInt64 < C := e ▸ l_lt.mpr h
theorem l_gtc {x c : Int32} {C : Int64} (e : c.toInt64 = C) (h : c < x) : C < x.toInt64 := e ▸ l_lt.mpr h
theorem l_nltc {x c : Int32} {C : Int64} (e : c.toInt64 = C) (h : ¬ x < c) : ¬ x.toInt64 < C := fun q => h (l_lt.mp (e ▸ q))
theorem l_ngtc {x c : Int32} {C : Int64} (e : c.toInt64 = C) (h : ¬ c < x) : ¬ C < x.toInt64 := fun q => h (l_lt.mp (e ▸ q))
theorem c3 : (3 : Int32).toNatClampNeg = 3 := by decide
theorem c4 : (4 : Int32).toNatClampNeg = 4 := by decide
theorem c5 : (5 : Int32).toNatClampNeg = 5 := by decide
theorem pa3 {f g g1 : Nat → Int32} {d h : Nat} {w v : Int32} (hf : em f d h w) (hg : ∀ j, j < 6 → g j = f j) (e1 : g1 = upd g (5 : Int32).toNatClampNeg v) : g1 3 = nI d := by
  rw [e1, c5, upd_ne (by decide), hg 3 (by decide)]
  exact hf.2.1
theorem pb3 {g1 g2 : Nat → Int32} {v : Int32} (e2 : g2 = upd g1 (3 : Int32).toNatClampNeg v) : g2 3 = v := by
  rw [e2, c3, upd_self]
theorem pass0 {f g g1 g2 : Nat → Int32} {d h : Nat} {w v u : Int32} (hf : em f d h w) (hg : ∀ j, j < 6 → g j = f j) (e1 : g1 = upd g (5 : Int32).toNatClampNeg v) (e2 : g2 = upd g1 (3 : Int32).toNatClampNeg u) : e0 g2 := by
  obtain ⟨⟨a, b, c⟩, -⟩ := hf
  refine ⟨?_, ?_, ?_⟩
  · rw [e2, c3, upd_ne (by decide), e1, c5, upd_ne (by decide), hg 0 (by decide)]; exact a
  · rw [e2, c3, upd_ne (by decide), e1, c5, upd_ne (by decide), hg 1 (by decide)]; exact b
  · rw [e2, c3, upd_ne (by decide), e1, c5, upd_ne (by decide), hg 2 (by decide)]; exact c
theorem pass1 {f g g1 g2 : Nat → Int32} {d h : Nat} {w : Int32} (hf : em f d h w) (hg : ∀ j, j < 6 → g j = f j) (e1 : g1 = upd g (5 : Int32).toNatClampNeg (nI ((h + 1) % 31))) (e2 : g2 = upd g1 (3 : Int32).toNatClampNeg (nI (d + 1))) (hd : d + 1 < 360) : em g2 (d + 1) ((h + 1) % 31) w := by
  refine ⟨pass0 hf hg e1 e2, pb3 e2, ?_, ?_, hd, by omega⟩
  · rw [e2, c3, upd_ne (by decide), e1, c5, upd_ne (by decide), hg 4 (by decide)]; exact hf.2.2.1
  · rw [e2, c3, upd_ne (by decide), e1, c5, upd_self]
theorem pass2 {f g g1 g2 g3 : Nat → Int32} {d h : Nat} {w : Int32} (hf : em f d h w) (hg : ∀ j, j < 6 → g j = f j) (e1 : g1 = upd g (5 : Int32).toNatClampNeg (nI ((h + 1) % 31))) (e2 : g2 = upd g1 (3 : Int32).toNatClampNeg (nI (d + 1))) (h3 : g3 3 = 0) (hn : ∀ j, j ≠ 3 → g3 j = g2 j) : em g3 0 ((h + 1) % 31) w := by
  obtain ⟨a, b, c⟩ := pass0 hf hg e1 e2
  refine ⟨⟨(hn 0 (by decide)).trans a, (hn 1 (by decide)).trans b, (hn 2 (by decide)).trans c⟩, h3, ?_, ?_, by omega, by omega⟩
  · rw [hn 4 (by decide), e2, c3, upd_ne (by decide), e1, c5, upd_ne (by decide), hg 4 (by decide)]; exact hf.2.2.1
  · rw [hn 5 (by decide), e2, c3, upd_ne (by decide), e1, c5, upd_self]
theorem e0_of {f g : Nat → Int32} (h : ∀ j, j < 660 → g j = f j) (hf : e0 f) : e0 g := ⟨(h 0 (by decide)).trans hf.1, (h 1 (by decide)).trans hf.2.1, (h 2 (by decide)).trans hf.2.2⟩
theorem em_fresh {f : Nat → Int32} (hz : ∀ j, j ≠ 4 → f j = 0) (h4 : f 4 = 100) : em f 0 0 100 := ⟨⟨hz 0 (by decide), hz 1 (by decide), hz 2 (by decide)⟩, hz 3 (by decide), h4, hz 5 (by decide), by decide, by decide⟩
theorem em_wet {f g : Nat → Int32} {d h : Nat} {w v : Int32} (hf : em f d h w) (e : g = upd f (4 : Int32).toNatClampNeg v) : em g d h v := by
  obtain ⟨⟨a, b, c⟩, h3, h4, h5, k1, k2⟩ := hf
  refine ⟨⟨?_, ?_, ?_⟩, ?_, ?_, ?_, k1, k2⟩
  · rw [e, c4, upd_ne (by decide)]; exact a
  · rw [e, c4, upd_ne (by decide)]; exact b
  · rw [e, c4, upd_ne (by decide)]; exact c
  · rw [e, c4, upd_ne (by decide)]; exact h3
  · rw [e, c4, upd_self]
  · rw [e, c4, upd_ne (by decide)]; exact h5
theorem nI_ne {a : Nat} (h : ¬ nI a = 360) : a ≠ 360 := fun q => h (by rw [q]; rfl)
theorem nI_eq3 {a : Nat} (h0 : a < 2147483648) (h : nI a = 360) : a = 360 := (nI_eq h0 (by decide)).mp h
