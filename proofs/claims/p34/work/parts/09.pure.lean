/-! reading a text: bytes T (signed), n of them -/
abbrev bT (T : Nat → Int32) (p : Int) : Int := (T p.toNat).toInt
/-- blanks passed -/
def rskF (T : Nat → Int32) (n : Int) : Nat → Int → Int
  | 0, p => p
  | k + 1, p => if p < n ∧ bT T p = 32 then rskF T n k (p + 1) else p
def rsk (T : Nat → Int32) (n p : Int) : Int := rskF T n (n - p).toNat p
theorem rsk_step {T : Nat → Int32} {n p : Int} (h : p < n) (hb : bT T p = 32) : rsk T n p = rsk T n (p + 1) := by
  unfold rsk
  have e : (n - p).toNat = (n - (p + 1)).toNat + 1 := by omega
  rw [e, rskF, if_pos ⟨h, hb⟩]
theorem rsk_stop {T : Nat → Int32} {n p : Int} (h : ¬ (p < n ∧ bT T p = 32)) : rsk T n p = p := by
  unfold rsk
  cases (n - p).toNat with
  | zero => rfl
  | succ k => rw [rskF, if_neg h]
theorem rskF_le {T : Nat → Int32} {n : Int} : ∀ (k : Nat) (p : Int), p ≤ n → p ≤ rskF T n k p ∧ rskF T n k p ≤ n
  | 0, p, h => ⟨Int.le_refl _, h⟩
  | k + 1, p, h => by
    rw [rskF]
    split
    · have := rskF_le (T := T) (n := n) k (p + 1) (by omega)
      omega
    · omega
theorem rsk_le {T : Nat → Int32} {n p : Int} (h : p ≤ n) : p ≤ rsk T n p ∧ rsk T n p ≤ n := rskF_le _ p h
theorem rsk_no {T : Nat → Int32} {n p : Int} : ¬ (rsk T n p < n ∧ bT T (rsk T n p) = 32) := by
  have key : ∀ (k : Nat) (p : Int), (n - p).toNat ≤ k → ¬ (rskF T n k p < n ∧ bT T (rskF T n k p) = 32) := by
    intro k
    induction k with
    | zero => intro p h; rw [rskF]; omega
    | succ k ih =>
      intro p h
      rw [rskF]
      split
      · exact ih (p + 1) (by omega)
      · assumption
  exact key _ p (Nat.le_refl _)
theorem rsk_rsk {T : Nat → Int32} {n p : Int} : rsk T n (rsk T n p) = rsk T n p := rsk_stop rsk_no
abbrev rdg (T : Nat → Int32) (n p : Int) : Prop := p < n ∧ 48 ≤ bT T p ∧ bT T p ≤ 57
/-- digits passed: the place behind them -/
def rdgF (T : Nat → Int32) (n : Int) : Nat → Int → Int
  | 0, p => p
  | k + 1, p => if rdg T n p then rdgF T n k (p + 1) else p
def rde (T : Nat → Int32) (n p : Int) : Int := rdgF T n (n - p).toNat p
/-- their value as the class counts it, from a on -/
def rcvF (T : Nat → Int32) (n : Int) : Nat → Int → Int → Int
  | 0, _, a => a
  | k + 1, p, a => if rdg T n p then rcvF T n k (p + 1) (min (a * 10 + bT T p - 48) 1000000) else a
def rcv (T : Nat → Int32) (n p a : Int) : Int := rcvF T n (n - p).toNat p a
/-- and as the reference does -/
def rmvF (T : Nat → Int32) (n : Int) : Nat → Int → Int → Int
  | 0, _, a => a
  | k + 1, p, a => if rdg T n p then rmvF T n k (p + 1) (if a < 10000000 then 10 * a + bT T p - 48 else a) else a
def rmv (T : Nat → Int32) (n p a : Int) : Int := rmvF T n (n - p).toNat p a
theorem rde_step {T : Nat → Int32} {n p : Int} (h : rdg T n p) : rde T n p = rde T n (p + 1) := by
  unfold rde
  have e : (n - p).toNat = (n - (p + 1)).toNat + 1 := by have := h.1; omega
  rw [e, rdgF, if_pos h]
theorem rde_stop {T : Nat → Int32} {n p : Int} (h : ¬ rdg T n p) : rde T n p = p := by
  unfold rde
  cases (n - p).toNat with
  | zero => rfl
  | succ k => rw [rdgF, if_neg h]
theorem rcv_step {T : Nat → Int32} {n p a : Int} (h : rdg T n p) : rcv T n p a = rcv T n (p + 1) (min (a * 10 + bT T p - 48) 1000000) := by
  unfold rcv
  have e : (n - p).toNat = (n - (p + 1)).toNat + 1 := by have := h.1; omega
  rw [e, rcvF, if_pos h]
theorem rcv_stop {T : Nat → Int32} {n p a : Int} (h : ¬ rdg T n p) : rcv T n p a = a := by
  unfold rcv
  cases (n - p).toNat with
  | zero => rfl
  | succ k => rw [rcvF, if_neg h]
theorem rmv_step {T : Nat → Int32} {n p a : Int} (h : rdg T n p) : rmv T n p a = rmv T n (p + 1) (if a < 10000000 then 10 * a + bT T p - 48 else a) := by
  unfold rmv
  have e : (n - p).toNat = (n - (p + 1)).toNat + 1 := by have := h.1; omega
  rw [e, rmvF, if_pos h]
theorem rmv_stop {T : Nat → Int32} {n p a : Int} (h : ¬ rdg T n p) : rmv T n p a = a := by
  unfold rmv
  cases (n - p).toNat with
  | zero => rfl
  | succ k => rw [rmvF, if_neg h]
theorem rde_le {T : Nat → Int32} {n p : Int} (h : p ≤ n) : p ≤ rde T n p ∧ rde T n p ≤ n := by
  have key : ∀ (k : Nat) (p : Int), p ≤ n → p ≤ rdgF T n k p ∧ rdgF T n k p ≤ n := by
    intro k
    induction k with
    | zero => intro p h; rw [rdgF]; omega
    | succ k ih =>
      intro p h
      rw [rdgF]
      split
      · rename_i h1
        have := ih (p + 1) (by have := h1.1; omega)
        omega
      · omega
  exact key _ p h
theorem rde_eq {T : Nat → Int32} {n p : Int} (h : p ≤ n) : rde T n p = p ↔ ¬ rdg T n p := by
  constructor
  · intro e hd
    rw [rde_step hd] at e
    have := (rde_le (T := T) (n := n) (p := p + 1) (by have := hd.1; omega)).1
    omega
  · exact rde_stop
/-- the two values are alike below a million -/
theorem rcm {T : Nat → Int32} {n : Int} : ∀ (k : Nat) (p a b : Int), 0 ≤ b → ((b < 1000000 ∧ a = b) ∨ (1000000 ≤ b ∧ a = 1000000)) →
    0 ≤ rmvF T n k p b ∧ ((rmvF T n k p b < 1000000 ∧ rcvF T n k p a = rmvF T n k p b) ∨ (1000000 ≤ rmvF T n k p b ∧ rcvF T n k p a = 1000000))
  | 0, p, a, b, h0, h => by rw [rmvF, rcvF]; exact ⟨h0, h⟩
  | k + 1, p, a, b, h0, h => by
    rw [rmvF, rcvF]
    split
    · rename_i hd
      obtain ⟨_, h1, h2⟩ := hd
      refine rcm k (p + 1) _ _ ?_ ?_
      · split <;> omega
      · split <;> omega
    · exact ⟨h0, h⟩
theorem rvals {T : Nat → Int32} {n p lo hi : Int} (hlo : 0 ≤ lo) (hhi : hi ≤ 999999) : (rcv T n p 0 < lo ∨ hi < rcv T n p 0 ↔ rmv T n p 0 < lo ∨ hi < rmv T n p 0) ∧ (¬ (hi < rmv T n p 0) → rcv T n p 0 = rmv T n p 0) := by
  have := rcm (T := T) (n := n) (n - p).toNat p 0 0 (Int.le_refl _) (Or.inl ⟨by omega, rfl⟩)
  unfold rcv rmv
  omega
/-! words -/
def rwm (T : Nat → Int32) : List Int → Int → Bool
  | [], _ => true
  | c :: w, p => decide (bT T p = c) && rwm T w (p + 1)
/-- this word stands at p, no letter behind it -/
def rwd (T : Nat → Int32) (n p : Int) (w : List Int) : Bool := decide (p + w.length ≤ n) && rwm T w p && !(decide (p + w.length < n) && decide (97 ≤ bT T (p + w.length)) && decide (bT T (p + w.length) ≤ 122))
/-! the class: isNext, readNumber, blame (f: the fault so far) -/
abbrev cBl (f q k : Int) : Int := if f = 0 then 8 * q + k else f
abbrev cIs (T : Nat → Int32) (n p f : Int) (w : List Int) : Bool := decide (f = 0) && rwd T n (rsk T n p) w
abbrev cIp (T : Nat → Int32) (n p f : Int) (w : List Int) : Int := if cIs T n p f w then rsk T n p + w.length else rsk T n p
abbrev cNp (T : Nat → Int32) (n p : Int) : Int := rde T n (rsk T n p)
abbrev cNf (T : Nat → Int32) (n p f lo hi : Int) : Int :=
  if cNp T n p = rsk T n p then cBl f (rsk T n p) 1 else if rcv T n (rsk T n p) 0 < lo ∨ hi < rcv T n (rsk T n p) 0 then cBl f (rsk T n p) 2 else f
abbrev cNv (T : Nat → Int32) (n p lo hi : Int) : Int :=
  if cNp T n p = rsk T n p then lo else if rcv T n (rsk T n p) 0 < lo ∨ hi < rcv T n (rsk T n p) 0 then lo else rcv T n (rsk T n p) 0
/-! the reference: readsNumber: good or not, the place behind, the fault -/
abbrev mNg (T : Nat → Int32) (n p lo hi : Int) : Prop := rdg T n (rsk T n p) ∧ lo ≤ rmv T n (rsk T n p) 0 ∧ rmv T n (rsk T n p) 0 ≤ hi
abbrev mNw (T : Nat → Int32) (n p : Int) : Int := if rdg T n (rsk T n p) then 8 * rsk T n p + 2 else 8 * rsk T n p + 1
/-- one number, read by both: good: alike, no fault; bad: the fault is the reference's -/
theorem cm_num {T : Nat → Int32} {n p lo hi : Int} (hp : p ≤ n) (hlo : 0 ≤ lo) (hhi : hi ≤ 999999) :
    (mNg T n p lo hi → cNf T n p 0 lo hi = 0 ∧ cNv T n p lo hi = rmv T n (rsk T n p) 0) ∧ (¬ mNg T n p lo hi → cNf T n p 0 lo hi = mNw T n p) := by
  have h1 := (rsk_le (T := T) hp).2
  have h2 := rde_eq (T := T) (n := n) (p := rsk T n p) h1
  obtain ⟨h3, h4⟩ := rvals (T := T) (n := n) (p := rsk T n p) (lo := lo) (hi := hi) hlo hhi
  unfold cNf cNv mNg mNw cNp cBl
  refine ⟨fun h => ?_, fun h => ?_⟩
  · have n1 : ¬ rde T n (rsk T n p) = rsk T n p := by rw [h2]; exact fun q => q h.1
    have n2 : ¬ (rcv T n (rsk T n p) 0 < lo ∨ hi < rcv T n (rsk T n p) 0) := by rw [h3]; have := h.2; omega
    simp only [if_neg n1, if_neg n2]
    exact ⟨trivial, h4 (by have := h.2; omega)⟩
  · by_cases hd : rdg T n (rsk T n p)
    · rw [if_neg (by rw [h2]; exact fun q => q hd), if_pos hd, if_pos (by rw [h3]; by_cases hx : rmv T n (rsk T n p) 0 < lo; exact Or.inl hx; exact Or.inr (Int.not_le.mp fun hy => h ⟨hd, Int.not_lt.mp hx, hy⟩)), if_pos rfl]
    · rw [if_pos (h2.mpr hd), if_neg hd, if_pos rfl]
/-! the class's reading as functions of (place, fault, wetTold, reaches, rights, stores, down, inflow, sink, rightAge, storeAge) -/
abbrev RwF := Nat → Int32
def rup (F : RwF) (i v : Int) : RwF := fun j => if j = i.toNat then Int32.ofInt v else F j
abbrev CSt := Int × Int × Int × Int × Int × Int × RwF × RwF × RwF × RwF × RwF
def wReach : List Int := [114, 101, 97, 99, 104]
def wRight : List Int := [114, 105, 103, 104, 116]
def wStore : List Int := [115, 116, 111, 114, 101]
def wWet : List Int := [119, 101, 116]
def wMouth : List Int := [109, 111, 117, 116, 104]
def wSink : List Int := [115, 105, 110, 107]
def wAge : List Int := [97, 103, 101]
def wVol : List Int := [118, 111, 108]
def wBack : List Int := [98, 97, 99, 107]
/-- a number: (place, fault, value) -/
def cNum (T : RwF) (n lo hi : Int) (q : Int × Int) : Int × Int × Int := (cNp T n q.1, cNf T n q.1 q.2 lo hi, cNv T n q.1 lo hi)
/-- a word, then a number, or neither (value d) -/
def cOpt (T : RwF) (n lo hi d : Int) (w : List Int) (q : Int × Int) : Int × Int × Int :=
  if cIs T n q.1 q.2 w then cNum T n lo hi (cIp T n q.1 q.2 w, q.2) else (cIp T n q.1 q.2 w, q.2, d)
/-- one of the first m places of a row holds v -/
def rhas (F : RwF) (v : Int) : Nat → Bool
  | 0 => false
  | m + 1 => rhas F v m || decide ((F m).toInt = v)
def cReach (T : RwF) (n start : Int) : CSt → CSt := fun (p, f, w, a, b, c, D, Q, K, RA, SA) =>
  if 12 ≤ a then (p, cBl f start 3, w, a, b, c, D, Q, K, RA, SA) else
  let m := cIs T n p f wMouth
  let x0 : Int × Int × Int := if m then (cIp T n p f wMouth, f, -2) else cNum T n 0 (a - 1) (cIp T n p f wMouth, f)
  let x1 := cNum T n 0 9999 (x0.1, x0.2.1)
  let x2 := cNum T n 0 9999 (x1.1, x1.2.1)
  let x3 := cNum T n 0 9999 (x2.1, x2.2.1)
  let x4 := cNum T n 0 9999 (x3.1, x3.2.1)
  let x5 := cOpt T n 0 9999 0 wSink (x4.1, x4.2.1)
  (x5.1, x5.2.1, w, a + 1, b, c, rup D a x0.2.2, rup (rup (rup (rup Q (a * 4) x1.2.2) (a * 4 + 1) x2.2.2) (a * 4 + 2) x3.2.2) (a * 4 + 3) x4.2.2, rup K a x5.2.2, RA, SA)
/-- age and a number that is new -/
def cAge (T : RwF) (n b c : Int) (RA SA : RwF) (q : Int × Int) : Int × Int × Int :=
  let p1 := cIp T n q.1 q.2 wAge
  let f1 := if cIs T n q.1 q.2 wAge then q.2 else cBl q.2 p1 1
  let x := cNum T n 0 9999 (p1, f1)
  (x.1, if rhas RA x.2.2 b.toNat || rhas SA x.2.2 c.toNat then cBl x.2.1 (rsk T n p1) 2 else x.2.1, x.2.2)
def cRight (T : RwF) (n start : Int) : CSt → CSt := fun (p, f, w, a, b, c, D, Q, K, RA, SA) =>
  if 14 ≤ b then (p, cBl f start 3, w, a, b, c, D, Q, K, RA, SA) else
  let x0 := cNum T n 0 (a - 1) (p, f)
  let x1 := cNum T n 1 9999 (x0.1, x0.2.1)
  let x2 := cNum T n 0 359 (x1.1, x1.2.1)
  let x3 := cNum T n x2.2.2 359 (x2.1, x2.2.1)
  let x4 := cAge T n b c RA SA (x3.1, x3.2.1)
  let x5 := cOpt T n 1 999999 0 wVol (x4.1, x4.2.1)
  let m := cIs T n x5.1 x5.2.1 wBack
  let p6 := cIp T n x5.1 x5.2.1 wBack
  let y0 := cNum T n 0 (a - 1) (p6, x5.2.1)
  let y1 := cNum T n 0 100 (y0.1, y0.2.1)
  let y2 := cNum T n 1 30 (y1.1, y1.2.1)
  (if m then y2.1 else p6, if m then y2.2.1 else x5.2.1, w, a, b + 1, c, D, Q, K, rup RA b x4.2.2, SA)
def cStore (T : RwF) (n start : Int) : CSt → CSt := fun (p, f, w, a, b, c, D, Q, K, RA, SA) =>
  if 4 ≤ c then (p, cBl f start 3, w, a, b, c, D, Q, K, RA, SA) else
  let x0 := cNum T n 0 (a - 1) (p, f)
  let x1 := cNum T n 1 999999 (x0.1, x0.2.1)
  let x2 := cNum T n 1 9999 (x1.1, x1.2.1)
  let x3 := cAge T n b c RA SA (x2.1, x2.2.1)
  (x3.1, x3.2.1, w, a, b, c + 1, D, Q, K, RA, rup SA c x3.2.2)
def cWet (T : RwF) (n start : Int) : CSt → CSt := fun (p, f, w, a, b, c, D, Q, K, RA, SA) =>
  if w ≠ 0 then (p, cBl f start 3, w, a, b, c, D, Q, K, RA, SA) else
  let x0 := cNum T n 0 400 (p, f)
  (x0.1, x0.2.1, 1, a, b, c, D, Q, K, RA, SA)
def cPart (T : RwF) (n : Int) : CSt → CSt := fun (p, f, r) =>
  let q := rsk T n p
  if cIs T n q f wReach then cReach T n q (cIp T n q f wReach, f, r)
  else if cIs T n q f wRight then cRight T n q (cIp T n q f wRight, f, r)
  else if cIs T n q f wStore then cStore T n q (cIp T n q f wStore, f, r)
  else if cIs T n q f wWet then cWet T n q (cIp T n q f wWet, f, r)
  else (q, cBl f q 1, r)
/-- behind a PART: whether there has to be one more, and where -/
def cBet (T : RwF) (n : Int) : CSt → Bool × CSt := fun (p, f, r) =>
  let q := rsk T n p
  if f ≠ 0 ∨ n ≤ q then (false, q, f, r) else if bT T q ≠ 59 then (false, q, cBl f q 1, r) else (true, q + 1, f, r)
def cAll (T : RwF) (n : Int) : Nat → CSt → CSt
  | 0, x => x
  | k + 1, x => let y := cBet T n (cPart T n x); if y.1 then cAll T n k y.2 else y.2
/-! the reference's reading: (place, wetTold, row); an answer: good or not, the fault, what stands then -/
abbrev MSt := Int × Int × RwF
abbrev MRs := Bool × Int × MSt
def mb (r : MRs) (k : MSt → MRs) : MRs := if r.1 then k r.2.2 else r
abbrev xI (X : RwF) (i : Nat) : Int := (X i).toInt
def mTo (T : RwF) (n lo hi at_ : Int) : MSt → MRs := fun (p, w, X) =>
  if mNg T n p lo hi then (true, 0, rde T n (rsk T n p), w, rup X at_ (rmv T n (rsk T n p) 0))
  else (false, mNw T n p, (if rdg T n (rsk T n p) then rde T n (rsk T n p) else rsk T n p), w, X)
/-- takesWord -/
def mIs (T : RwF) (n p : Int) (w : List Int) : Bool := rwd T n (rsk T n p) w
def mIp (T : RwF) (n p : Int) (w : List Int) : Int := if mIs T n p w then rsk T n p + w.length else rsk T n p
def mOpt (T : RwF) (n lo hi at_ : Int) (w : List Int) : MSt → MRs := fun (p, u, X) =>
  if mIs T n p w then mTo T n lo hi at_ (mIp T n p w, u, X) else (true, 0, mIp T n p w, u, X)
def mReach (T : RwF) (n : Int) : MSt → MRs := fun (p, w, X) =>
  let a := xI X 0
  if a = 12 then (false, 8 * p + 3, p, w, X) else
  let row := 6 + 6 * a
  let X1 := rup X row (-1)
  let r0 : MRs := if mIs T n (p + 5) wMouth then (true, 0, mIp T n (p + 5) wMouth, w, X1) else mTo T n 0 (a - 1) row (mIp T n (p + 5) wMouth, w, X1)
  mb (mb (mb (mb (mb (mb r0 (mTo T n 0 9999 (row + 2))) (mTo T n 0 9999 (row + 3))) (mTo T n 0 9999 (row + 4))) (mTo T n 0 9999 (row + 5))) (mOpt T n 0 9999 (row + 1) wSink))
    (fun (p, w, X) => (true, 0, p, w, rup X 0 (a + 1)))
def mAge (T : RwF) (n at_ : Int) : MSt → MRs := fun (p, w, X) =>
  if mIs T n p wAge then
    let p1 := mIp T n p wAge
    if mNg T n p1 0 9999 then
      let v := rmv T n (rsk T n p1) 0
      if rhas (fun t => X (78 + 13 * t + 4)) v (xI X 1).toNat || rhas (fun s => X (260 + 7 * s + 3)) v (xI X 2).toNat then (false, 8 * rsk T n p1 + 2, rde T n (rsk T n p1), w, X)
      else (true, 0, rde T n (rsk T n p1), w, rup X at_ v)
    else (false, mNw T n p1, (if rdg T n (rsk T n p1) then rde T n (rsk T n p1) else rsk T n p1), w, X)
  else (false, 8 * mIp T n p wAge + 1, mIp T n p wAge, w, X)
def mBack (T : RwF) (n row : Int) : MSt → MRs := fun (p, w, X) =>
  let X1 := rup X (row + 7) (-2)
  if mIs T n p wBack then mb (mb (mTo T n 0 (xI X 0 - 1) (row + 7) (mIp T n p wBack, w, X1)) (mTo T n 0 100 (row + 8))) (mTo T n 1 30 (row + 9))
  else (true, 0, mIp T n p wBack, w, X1)
def mRight (T : RwF) (n : Int) : MSt → MRs := fun (p, w, X) =>
  let a := xI X 0
  let b := xI X 1
  if b = 14 then (false, 8 * p + 3, p, w, X) else
  let row := 78 + 13 * b
  mb (mb (mb (mb (mb (mb (mb (mTo T n 0 (a - 1) row (p + 5, w, X)) (mTo T n 1 9999 (row + 1))) (mTo T n 0 359 (row + 2))) (fun (p, w, X) => mTo T n (xI X (row + 2).toNat) 359 (row + 3) (p, w, X))) (mAge T n (row + 4)))
    (fun (p, w, X) => mOpt T n 1 999999 (row + 5) wVol (p, w, rup X (row + 5) (-2)))) (mBack T n row))
    (fun (p, w, X) =>
      let X1 := rup X (row + 6) (xI X (row + 5).toNat)
      let X2 := rup X1 (row + 10) (xI X1 (row + 1).toNat)
      (true, 0, p, w, rup (rup X2 (row + 11) (-2)) 1 (b + 1)))
def mStore (T : RwF) (n : Int) : MSt → MRs := fun (p, w, X) =>
  let a := xI X 0
  let c := xI X 2
  if c = 4 then (false, 8 * p + 3, p, w, X) else
  let row := 260 + 7 * c
  mb (mb (mb (mb (mTo T n 0 (a - 1) row (p + 5, w, X)) (mTo T n 1 999999 (row + 1))) (mTo T n 1 9999 (row + 2))) (mAge T n (row + 3)))
    (fun (p, w, X) => (true, 0, p, w, rup (rup X (row + 5) (-2)) 2 (c + 1)))
def mWet (T : RwF) (n : Int) : MSt → MRs := fun (p, w, X) =>
  if w ≠ 0 then (false, 8 * p + 3, p, w, X) else mTo T n 0 400 4 (p + 3, 1, X)
def mPart (T : RwF) (n : Int) : MSt → MRs := fun (p, w, X) =>
  let q := rsk T n p
  if rwd T n q wReach then mReach T n (q, w, X)
  else if rwd T n q wRight then mRight T n (q, w, X)
  else if rwd T n q wStore then mStore T n (q, w, X)
  else if rwd T n q wWet then mWet T n (q, w, X)
  else (false, 8 * q + 1, q, w, X)
/-- PARTS as long as ; stands behind; then the end must be there -/
def mAll (T : RwF) (n : Int) : Nat → MSt → MRs
  | 0, x => (true, 0, x)
  | k + 1, x =>
    let r := mPart T n x
    if r.1 then
      let q := rsk T n r.2.2.1
      if q < n ∧ bT T q = 59 then mAll T n k (q + 1, r.2.2.2) else if q < n then (false, 8 * q + 1, q, r.2.2.2) else (true, 0, q, r.2.2.2)
    else r
/-! a fault stays -/
theorem cBl_ne {f q k : Int} (h : f ≠ 0) : cBl f q k = f := if_neg h
theorem cNf_ne {T : RwF} {n p f lo hi : Int} (h : f ≠ 0) : cNf T n p f lo hi = f := by
  simp only [cNf, cBl, if_neg h, ite_self]
theorem cNum_ne {T : RwF} {n lo hi : Int} {q : Int × Int} (h : q.2 ≠ 0) : (cNum T n lo hi q).2.1 = q.2 := cNf_ne h
theorem cIs_ne {T : RwF} {n p f : Int} {w : List Int} (h : f ≠ 0) : cIs T n p f w = false := by simp [cIs, h]
theorem cOpt_ne {T : RwF} {n lo hi d : Int} {w : List Int} {q : Int × Int} (h : q.2 ≠ 0) : (cOpt T n lo hi d w q).2.1 = q.2 := by
  simp [cOpt, cIs_ne h]
theorem cAge_ne {T : RwF} {n b c : Int} {RA SA : RwF} {q : Int × Int} (h : q.2 ≠ 0) : (cAge T n b c RA SA q).2.1 = q.2 := by
  simp only [cAge, cIs_ne h, Bool.false_eq_true, if_false, cBl_ne h]
  have := cNum_ne (T := T) (n := n) (lo := 0) (hi := 9999) (q := (cIp T n q.1 q.2 wAge, q.2)) h
  split
  · rw [this]; exact cBl_ne h
  · exact this
/-- one number: good or bad, from no fault on -/
theorem cm_to {T : RwF} {n lo hi at_ p w : Int} {X : RwF} (hp : p ≤ n) (hlo : 0 ≤ lo) (hhi : hi ≤ 999999) :
    ((mTo T n lo hi at_ (p, w, X)).1 = true ∧ ∃ v : Int, lo ≤ v ∧ v ≤ hi ∧ cNum T n lo hi (p, 0) = ((mTo T n lo hi at_ (p, w, X)).2.2.1, 0, v) ∧ (mTo T n lo hi at_ (p, w, X)).2.2.2 = (w, rup X at_ v) ∧ (mTo T n lo hi at_ (p, w, X)).2.2.1 ≤ n)
    ∨ ((mTo T n lo hi at_ (p, w, X)).1 = false ∧ (mTo T n lo hi at_ (p, w, X)).2.1 ≠ 0 ∧ (cNum T n lo hi (p, 0)).2.1 = (mTo T n lo hi at_ (p, w, X)).2.1) := by
  obtain ⟨h1, h2⟩ := cm_num (T := T) (lo := lo) (hi := hi) hp hlo hhi
  have h3 := rsk_le (T := T) hp
  have h4 := rde_le (T := T) h3.2
  by_cases hg : mNg T n p lo hi
  · left
    obtain ⟨e1, e2⟩ := h1 hg
    simp only [mTo, if_pos hg]
    refine ⟨trivial, rmv T n (rsk T n p) 0, hg.2.1, hg.2.2, ?_, rfl, h4.2⟩
    unfold cNum
    rw [e1, e2]
  · right
    have e1 := h2 hg
    simp only [mTo, if_neg hg]
    refine ⟨trivial, ?_, e1⟩
    unfold mNw
    split <;> omega
theorem rwd_le {T : RwF} {n p : Int} {w : List Int} (h : rwd T n p w = true) : p + w.length ≤ n := by
  simp only [rwd, Bool.and_eq_true, decide_eq_true_eq] at h
  exact h.1.1
theorem cIs0 {T : RwF} {n p : Int} {w : List Int} : cIs T n p 0 w = mIs T n p w := by simp [cIs, mIs]
theorem cIp0 {T : RwF} {n p : Int} {w : List Int} : cIp T n p 0 w = mIp T n p w := by simp [cIp, mIp, cIs0]
theorem mIp_le {T : RwF} {n p : Int} {w : List Int} (hp : p ≤ n) : mIp T n p w ≤ n := by
  unfold mIp
  split
  · rename_i h; exact rwd_le h
  · exact (rsk_le hp).2
/-- what both made of a step: good: (place, no fault, value) and the row written; bad: one fault -/
def CM (n lo hi : Int) (x : Int × Int × Int) (r : MRs) (w : Int) (X : RwF) (at_ : Int) : Prop :=
  (r.1 = true ∧ ∃ v : Int, lo ≤ v ∧ v ≤ hi ∧ x = (r.2.2.1, 0, v) ∧ r.2.2.2 = (w, rup X at_ v) ∧ r.2.2.1 ≤ n) ∨ (r.1 = false ∧ r.2.1 ≠ 0 ∧ x.2.1 = r.2.1)
theorem cm_to' {T : RwF} {n lo hi at_ p w : Int} {X : RwF} (hp : p ≤ n) (hlo : 0 ≤ lo) (hhi : hi ≤ 999999) : CM n lo hi (cNum T n lo hi (p, 0)) (mTo T n lo hi at_ (p, w, X)) w X at_ := cm_to hp hlo hhi
theorem rhas_eq {F G : RwF} {v : Int} : ∀ {m : Nat}, (∀ i, i < m → F i = G i) → rhas F v m = rhas G v m
  | 0, _ => rfl
  | m + 1, h => by
    rw [rhas, rhas, rhas_eq (fun i hi => h i (by omega)), h m (by omega)]
theorem cm_age {T : RwF} {n at_ p w b c : Int} {X RA SA : RwF} (hp : p ≤ n) (hb : b = xI X 1) (hc : c = xI X 2) (hR : ∀ t, t < b.toNat → RA t = X (78 + 13 * t + 4)) (hS : ∀ t, t < c.toNat → SA t = X (260 + 7 * t + 3)) :
    CM n 0 9999 (cAge T n b c RA SA (p, 0)) (mAge T n at_ (p, w, X)) w X at_ := by
  subst hb hc
  have e1 : ∀ v, rhas RA v (xI X 1).toNat = rhas (fun t => X (78 + 13 * t + 4)) v (xI X 1).toNat := fun v => rhas_eq hR
  have e2 : ∀ v, rhas SA v (xI X 2).toNat = rhas (fun t => X (260 + 7 * t + 3)) v (xI X 2).toNat := fun v => rhas_eq hS
  by_cases hw : mIs T n p wAge = true
  · have hp1 := mIp_le (T := T) (w := wAge) hp
    obtain ⟨h1, h2⟩ := cm_num (T := T) (n := n) (p := mIp T n p wAge) (lo := 0) (hi := 9999) hp1 (by omega) (by omega)
    have h4 := rde_le (T := T) (rsk_le (T := T) hp1).2
    unfold CM cAge mAge
    simp only [cIs0, cIp0, hw, if_true, cNum]
    by_cases hg : mNg T n (mIp T n p wAge) 0 9999
    · obtain ⟨f0, v0⟩ := h1 hg
      simp only [if_pos hg, f0, v0, e1, e2]
      split
      · right
        refine ⟨rfl, ?_, ?_⟩
        · show 8 * _ + 2 ≠ (0 : Int)
          omega
        · show cBl 0 _ 2 = _
          exact if_pos rfl
      · left
        exact ⟨rfl, _, hg.2.1, hg.2.2, rfl, rfl, h4.2⟩
    · have f0 := h2 hg
      right
      simp only [if_neg hg, f0]
      have hne : mNw T n (mIp T n p wAge) ≠ 0 := by unfold mNw; split <;> omega
      refine ⟨trivial, hne, ?_⟩
      simp only [cBl_ne hne, ite_self]
  · have hw' : mIs T n p wAge = false := by simpa using hw
    right
    unfold cAge mAge
    simp only [cIs0, cIp0, hw', Bool.false_eq_true, if_false]
    have hne : 8 * mIp T n p wAge + 1 ≠ 0 := by omega
    have e3 : cBl 0 (mIp T n p wAge) 1 = 8 * mIp T n p wAge + 1 := if_pos rfl
    refine ⟨trivial, hne, ?_⟩
    rw [e3]
    have := cNum_ne (T := T) (n := n) (lo := 0) (hi := 9999) (q := (mIp T n p wAge, 8 * mIp T n p wAge + 1)) hne
    split
    · rw [this]; exact cBl_ne hne
    · exact this
theorem mb_t {r : MRs} {k : MSt → MRs} (h : r.1 = true) : mb r k = k r.2.2 := if_pos h
theorem mb_f {r : MRs} {k : MSt → MRs} (h : r.1 = false) : mb r k = r := by simp [mb, h]
theorem cm_opt {T : RwF} {n lo hi at_ p w d : Int} {u : List Int} {X : RwF} (hp : p ≤ n) (hlo : 0 ≤ lo) (hhi : hi ≤ 999999) :
    ((mOpt T n lo hi at_ u (p, w, X)).1 = true ∧ (mOpt T n lo hi at_ u (p, w, X)).2.2.1 ≤ n ∧ ∃ v : Int, cOpt T n lo hi d u (p, 0) = ((mOpt T n lo hi at_ u (p, w, X)).2.2.1, 0, v) ∧ ((lo ≤ v ∧ v ≤ hi ∧ (mOpt T n lo hi at_ u (p, w, X)).2.2.2 = (w, rup X at_ v)) ∨ (v = d ∧ (mOpt T n lo hi at_ u (p, w, X)).2.2.2 = (w, X))))
    ∨ ((mOpt T n lo hi at_ u (p, w, X)).1 = false ∧ (mOpt T n lo hi at_ u (p, w, X)).2.1 ≠ 0 ∧ (cOpt T n lo hi d u (p, 0)).2.1 = (mOpt T n lo hi at_ u (p, w, X)).2.1) := by
  unfold mOpt cOpt
  simp only [cIs0, cIp0]
  by_cases hw : mIs T n p u = true
  · simp only [hw, if_true]
    rcases cm_to (T := T) (w := w) (X := X) (at_ := at_) (mIp_le (T := T) (w := u) hp) hlo hhi with ⟨h1, v, h2, h3, h4, h5, h6⟩ | h
    · exact Or.inl ⟨h1, h6, v, h4, Or.inl ⟨h2, h3, h5⟩⟩
    · exact Or.inr h
  · have hw' : mIs T n p u = false := by simpa using hw
    simp only [hw', Bool.false_eq_true, if_false]
    exact Or.inl ⟨trivial, mIp_le hp, d, rfl, Or.inr ⟨rfl, trivial⟩⟩
/-- the class's reading and the reference's stand alike -/
def Sim (n : Int) (x : CSt) (y : MSt) : Prop :=
  x.1 = y.1 ∧ y.1 ≤ n ∧ x.2.1 = 0 ∧ x.2.2.1 = y.2.1 ∧ x.2.2.2.1 = xI y.2.2 0 ∧ x.2.2.2.2.1 = xI y.2.2 1 ∧ x.2.2.2.2.2.1 = xI y.2.2 2 ∧
  (0 ≤ xI y.2.2 0 ∧ xI y.2.2 0 ≤ 12) ∧ (0 ≤ xI y.2.2 1 ∧ xI y.2.2 1 ≤ 14) ∧ (0 ≤ xI y.2.2 2 ∧ xI y.2.2 2 ≤ 4) ∧
  (∀ r : Nat, r < (xI y.2.2 0).toNat → ((xI x.2.2.2.2.2.2.1 r = -2 ∧ xI y.2.2 (6 + 6 * r) = -1) ∨ (0 ≤ xI y.2.2 (6 + 6 * r) ∧ xI y.2.2 (6 + 6 * r) < 12 ∧ x.2.2.2.2.2.2.1 r = y.2.2 (6 + 6 * r)))) ∧
  (∀ r q : Nat, r < (xI y.2.2 0).toNat → q < 4 → x.2.2.2.2.2.2.2.1 (4 * r + q) = y.2.2 (6 + 6 * r + 2 + q)) ∧
  (∀ r : Nat, r < (xI y.2.2 0).toNat → x.2.2.2.2.2.2.2.2.1 r = y.2.2 (6 + 6 * r + 1)) ∧
  (∀ r : Nat, r < 12 → ¬ r < (xI y.2.2 0).toNat → xI y.2.2 (6 + 6 * r + 1) = 0) ∧
  (∀ t : Nat, t < (xI y.2.2 1).toNat → x.2.2.2.2.2.2.2.2.2.1 t = y.2.2 (78 + 13 * t + 4)) ∧
  (∀ t : Nat, t < (xI y.2.2 2).toNat → x.2.2.2.2.2.2.2.2.2.2 t = y.2.2 (260 + 7 * t + 3))
def CMP (n : Int) (x : CSt) (r : MRs) : Prop := (r.1 = true ∧ Sim n x r.2.2) ∨ (r.1 = false ∧ r.2.1 ≠ 0 ∧ x.2.1 = r.2.1)
theorem toI {v : Int} (h1 : -2147483648 ≤ v) (h2 : v ≤ 2147483647) : (Int32.ofInt v).toInt = v := Int32.toInt_ofInt_of_le (by omega) (by omega)
theorem rup_at {F : RwF} {i v : Int} {j : Nat} (h : j = i.toNat) : rup F i v j = Int32.ofInt v := if_pos h
theorem rup_ne {F : RwF} {i v : Int} {j : Nat} (h : j ≠ i.toNat) : rup F i v j = F j := if_neg h
theorem sim_wet {T : RwF} {n q w : Int} {x : CSt} {X : RwF} (hs : Sim n x (q, w, X)) (hl : q + 3 ≤ n) (h0 : 0 ≤ q) : CMP n (cWet T n q (q + 3, 0, x.2.2)) (mWet T n (q, w, X)) := by
  obtain ⟨p, f, w0, a, b, c, D, Q, K, RA, SA⟩ := x
  obtain ⟨e1, hqn, e2, e3, e4, e5, e6, ha, hb, hc, hD, hQ, hK, hZ, hR, hS⟩ := hs
  simp only at e1 e2 e3 e4 e5 e6 ha hb hc hD hQ hK hZ hR hS hqn
  subst e1 e2 e3
  unfold CMP cWet mWet
  simp only
  by_cases hw : w0 ≠ 0
  · rw [if_pos hw, if_pos hw]
    exact Or.inr ⟨rfl, by show 8 * p + 3 ≠ 0; omega, by show cBl 0 p 3 = 8 * p + 3; exact if_pos rfl⟩
  · rw [if_neg hw, if_neg hw]
    rcases cm_to (T := T) (n := n) (lo := 0) (hi := 400) (at_ := 4) (p := p + 3) (w := 1) (X := X) hl (by omega) (by omega) with ⟨g, v, v1, v2, ex, er, hn⟩ | ⟨g, ne, e⟩
    · left
      refine ⟨g, ?_⟩
      have k : ∀ j : Nat, j ≠ 4 → (mTo T n 0 400 4 (p + 3, 1, X)).2.2.2.2 j = X j := fun j hj => by rw [er]; exact rup_ne hj
      have kw : (mTo T n 0 400 4 (p + 3, 1, X)).2.2.2.1 = 1 := by rw [er]
      rw [ex]
      unfold Sim
      simp only [xI] at *
      rw [kw, k 0 (by omega), k 1 (by omega), k 2 (by omega)]
      refine ⟨trivial, hn, trivial, rfl, e4, e5, e6, ha, hb, hc, ?_, ?_, ?_, ?_, ?_, ?_⟩
      · intro r hr; rw [k _ (by omega)]; exact hD r hr
      · intro r q hr hq; rw [k _ (by omega)]; exact hQ r q hr hq
      · intro r hr; rw [k _ (by omega)]; exact hK r hr
      · intro r h1 h2; rw [k _ (by omega)]; exact hZ r h1 h2
      · intro t ht; rw [k _ (by omega)]; exact hR t ht
      · intro t ht; rw [k _ (by omega)]; exact hS t ht
    · exact Or.inr ⟨g, ne, e⟩
/-- a row that was written in places from lo to hi alone -/
abbrev Ex (X Y : RwF) (lo hi : Nat) : Prop := ∀ j : Nat, j < lo ∨ hi < j → Y j = X j
theorem Ex.rup {X Y : RwF} {lo hi : Nat} {i v : Int} (h : Ex X Y lo hi) (h1 : lo ≤ i.toNat) (h2 : i.toNat ≤ hi) : Ex X (rup Y i v) lo hi := fun j hj => by
  rw [rup_ne (by omega)]; exact h j hj
theorem Ex.rf {X : RwF} {lo hi : Nat} : Ex X X lo hi := fun _ _ => rfl
/-- a chain of steps: so far good at this place, the row as P says, the class at it with no fault; or both at one fault -/
def Ch (n : Int) (x : Int × Int) (r : MRs) (w : Int) (P : RwF → Prop) : Prop := (∃ Y, r = (true, 0, x.1, w, Y) ∧ x.2 = 0 ∧ x.1 ≤ n ∧ P Y) ∨ (r.1 = false ∧ r.2.1 ≠ 0 ∧ x.2 = r.2.1)
theorem Ch.step {n w : Int} {x x' : Int × Int} {r : MRs} {k : MSt → MRs} {P P' : RwF → Prop} (h : Ch n x r w P) (hg : ∀ Y, P Y → x.2 = 0 → x.1 ≤ n → Ch n x' (k (x.1, w, Y)) w P') (hb : x.2 ≠ 0 → x'.2 = x.2) : Ch n x' (mb r k) w P' := by
  rcases h with ⟨Y, e, h0, hn, hP⟩ | ⟨h1, h2, h3⟩
  · subst e
    exact hg Y hP h0 hn
  · rw [mb_f h1]
    exact Or.inr ⟨h1, h2, (hb (by rw [h3]; exact h2)).trans h3⟩
/-- a number, at its start -/
theorem ch_to {T : RwF} {n lo hi at_ p w : Int} {X : RwF} (hp : p ≤ n) (hlo : 0 ≤ lo) (hhi : hi ≤ 999999) :
    Ch n ((cNum T n lo hi (p, 0)).1, (cNum T n lo hi (p, 0)).2.1) (mTo T n lo hi at_ (p, w, X)) w (fun Y => lo ≤ (cNum T n lo hi (p, 0)).2.2 ∧ (cNum T n lo hi (p, 0)).2.2 ≤ hi ∧ Y = rup X at_ (cNum T n lo hi (p, 0)).2.2) := by
  rcases cm_to (T := T) (w := w) (X := X) (at_ := at_) hp hlo hhi with ⟨g, v, h1, h2, h3, h4, h5⟩ | h
  · left
    rw [h3]
    refine ⟨rup X at_ v, ?_, rfl, h5, h1, h2, rfl⟩
    by_cases hg : mNg T n p lo hi
    · simp only [mTo, if_pos hg, Prod.mk.injEq, true_and] at h4 ⊢
      exact h4
    · simp [mTo, if_neg hg] at g
  · exact Or.inr h
theorem Ch.num {T : RwF} {n w lo hi at_ : Int} {x : Int × Int} {r : MRs} {P : RwF → Prop} (h : Ch n x r w P) (hlo : 0 ≤ lo) (hhi : hi ≤ 999999) :
    Ch n ((cNum T n lo hi x).1, (cNum T n lo hi x).2.1) (mb r (mTo T n lo hi at_)) w (fun Z => ∃ Y, P Y ∧ lo ≤ (cNum T n lo hi x).2.2 ∧ (cNum T n lo hi x).2.2 ≤ hi ∧ Z = rup Y at_ (cNum T n lo hi x).2.2) := by
  refine h.step (fun Y hP h0 hn => ?_) (fun hne => cNum_ne hne)
  obtain ⟨p, f⟩ := x
  simp only at h0 hn
  subst h0
  rcases ch_to (T := T) (w := w) (X := Y) (at_ := at_) hn hlo hhi with ⟨Z, e1, e2, e3, e4⟩ | hb
  · exact Or.inl ⟨Z, e1, e2, e3, Y, hP, e4⟩
  · exact Or.inr hb
theorem Ch.age {T : RwF} {n w at_ b c : Int} {RA SA : RwF} {x : Int × Int} {r : MRs} {P : RwF → Prop} (h : Ch n x r w P) (hB : ∀ Y, P Y → b = xI Y 1 ∧ c = xI Y 2 ∧ (∀ t, t < b.toNat → RA t = Y (78 + 13 * t + 4)) ∧ (∀ t, t < c.toNat → SA t = Y (260 + 7 * t + 3))) :
    Ch n ((cAge T n b c RA SA x).1, (cAge T n b c RA SA x).2.1) (mb r (mAge T n at_)) w (fun Z => ∃ Y, P Y ∧ 0 ≤ (cAge T n b c RA SA x).2.2 ∧ (cAge T n b c RA SA x).2.2 ≤ 9999 ∧ Z = rup Y at_ (cAge T n b c RA SA x).2.2) := by
  refine h.step (fun Y hP h0 hn => ?_) (fun hne => cAge_ne hne)
  obtain ⟨p, f⟩ := x
  simp only at h0 hn
  subst h0
  obtain ⟨q1, q2, q3, q4⟩ := hB Y hP
  have hw : ∀ r : MRs, r.1 = true → r = mAge T n at_ (p, w, Y) → r.2.1 = 0 := by
    intro r hr e
    subst e
    revert hr
    unfold mAge
    simp only
    split
    · split
      · split <;> simp
      · simp
    · simp
  rcases cm_age (T := T) (w := w) (X := Y) (at_ := at_) hn q1 q2 q3 q4 with ⟨g, v, h1, h2, h3, h4, h5⟩ | hb
  · left
    rw [h3]
    refine ⟨rup Y at_ v, ?_, rfl, h5, Y, hP, h1, h2, rfl⟩
    have h6 := hw _ g rfl
    exact Prod.ext g (Prod.ext h6 (Prod.ext rfl h4))
  · exact Or.inr hb
theorem Ch.opt {T : RwF} {n w lo hi at_ d : Int} {u : List Int} {x : Int × Int} {r : MRs} {P : RwF → Prop} (h : Ch n x r w P) (hlo : 0 ≤ lo) (hhi : hi ≤ 999999) :
    Ch n ((cOpt T n lo hi d u x).1, (cOpt T n lo hi d u x).2.1) (mb r (mOpt T n lo hi at_ u)) w (fun Z => ∃ Y, P Y ∧ ((lo ≤ (cOpt T n lo hi d u x).2.2 ∧ (cOpt T n lo hi d u x).2.2 ≤ hi ∧ Z = rup Y at_ (cOpt T n lo hi d u x).2.2) ∨ ((cOpt T n lo hi d u x).2.2 = d ∧ Z = Y))) := by
  refine h.step (fun Y hP h0 hn => ?_) (fun hne => cOpt_ne hne)
  obtain ⟨p, f⟩ := x
  simp only at h0 hn
  subst h0
  have hw : ∀ r : MRs, r.1 = true → r = mOpt T n lo hi at_ u (p, w, Y) → r.2.1 = 0 := by
    intro r hr e
    subst e
    revert hr
    unfold mOpt mTo
    simp only
    split
    · split <;> simp
    · simp
  rcases cm_opt (T := T) (w := w) (X := Y) (at_ := at_) (u := u) (d := d) hn hlo hhi with ⟨g, h5, v, h3, h4⟩ | hb
  · left
    rw [h3]
    have h6 := hw _ g rfl
    rcases h4 with ⟨v1, v2, h4⟩ | ⟨v1, h4⟩
    · exact ⟨rup Y at_ v, Prod.ext g (Prod.ext h6 (Prod.ext rfl h4)), rfl, h5, Y, hP, Or.inl ⟨v1, v2, rfl⟩⟩
    · exact ⟨Y, Prod.ext g (Prod.ext h6 (Prod.ext rfl h4)), rfl, h5, Y, hP, Or.inr ⟨v1, rfl⟩⟩
  · exact Or.inr hb
theorem Ch.mono {n w : Int} {x : Int × Int} {r : MRs} {P P' : RwF → Prop} (h : Ch n x r w P) (hp : ∀ Y, P Y → P' Y) : Ch n x r w P' := by
  rcases h with ⟨Y, e, h0, hn, hP⟩ | h
  · exact Or.inl ⟨Y, e, h0, hn, hp Y hP⟩
  · exact Or.inr h
theorem sim_store_end {n p w a b c p1 w1 v : Int} {D Q K RA SA X Z : RwF} (hs : Sim n (p, 0, w, a, b, c, D, Q, K, RA, SA) (p, w, X)) (hp : p1 ≤ n) (hc : c < 4)
    (h1 : ∀ j : Nat, j ≠ 2 → (j < 260 + 7 * c.toNat ∨ 260 + 7 * c.toNat + 6 < j) → Z j = X j) (h2 : Z 2 = Int32.ofInt (c + 1)) (h3 : Z (260 + 7 * c.toNat + 3) = Int32.ofInt v) :
    Sim n (p1, 0, w1, a, b, c + 1, D, Q, K, RA, rup SA c v) (p1, w1, Z) := by
  obtain ⟨e1, hqn, e2, e3, e4, e5, e6, ha, hb, hc0, hD, hQ, hK, hZ, hR, hS⟩ := hs
  simp only at e1 e2 e3 e4 e5 e6 ha hb hc0 hD hQ hK hZ hR hS hqn
  have z0 : xI Z 0 = a := by rw [xI, h1 0 (by omega) (by omega)]; exact e4.symm
  have z1 : xI Z 1 = b := by rw [xI, h1 1 (by omega) (by omega)]; exact e5.symm
  have z2 : xI Z 2 = c + 1 := by rw [xI, h2]; exact toI (by omega) (by omega)
  rw [← e4] at ha hD hQ hK hZ
  rw [← e5] at hb hR
  rw [← e6] at hc0 hS
  unfold Sim
  simp only [z0, z1, z2]
  refine ⟨trivial, hp, trivial, trivial, trivial, trivial, trivial, ha, hb, by omega, ?_, ?_, ?_, ?_, ?_, ?_⟩
  · intro r hr; rw [xI, xI, h1 _ (by omega) (by omega)]; exact hD r hr
  · intro r q hr hq; rw [h1 _ (by omega) (by omega)]; exact hQ r q hr hq
  · intro r hr; rw [h1 _ (by omega) (by omega)]; exact hK r hr
  · intro r g1 g2; rw [xI, h1 _ (by omega) (by omega)]; exact hZ r g1 g2
  · intro t ht; rw [h1 _ (by omega) (by omega)]; exact hR t ht
  · intro t ht
    by_cases e : t = c.toNat
    · rw [rup_at e, e, h3]
    · rw [rup_ne e, h1 _ (by omega) (by omega)]; exact hS t (by omega)
theorem sim_store {T : RwF} {n q w : Int} {x : CSt} {X : RwF} (hs : Sim n x (q, w, X)) (hl : q + 5 ≤ n) : CMP n (cStore T n q (q + 5, 0, x.2.2)) (mStore T n (q, w, X)) := by
  obtain ⟨p, f, w0, a, b, c, D, Q, K, RA, SA⟩ := x
  have hs0 := hs
  obtain ⟨e1, hqn, e2, e3, e4, e5, e6, ha, hb, hc, hD, hQ, hK, hZ, hR, hS⟩ := hs
  simp only at e1 e2 e3 e4 e5 e6 ha hb hc hD hQ hK hZ hR hS hqn
  subst e1 e2 e3
  rw [← e4] at ha hD hQ hK hZ
  rw [← e5] at hb hR
  rw [← e6] at hc hS
  unfold CMP cStore mStore
  simp only [← e4, ← e6]
  by_cases hc4 : c = 4
  · rw [if_pos (show (4:Int) ≤ c by omega), if_pos hc4]
    exact Or.inr ⟨rfl, by show 8 * p + 3 ≠ 0; omega, by show cBl 0 p 3 = 8 * p + 3; exact if_pos rfl⟩
  · rw [if_neg (show ¬ (4:Int) ≤ c by omega), if_neg hc4]
    have s2 : Ch n _ _ w0 (fun Y => Ex X Y (260 + 7 * c).toNat (260 + 7 * c + 6).toNat) := (((ch_to (T := T) (n := n) (lo := 0) (hi := a - 1) (at_ := 260 + 7 * c) (p := p + 5) (w := w0) (X := X) hl (by omega) (by omega)).num (T := T) (lo := 1) (hi := 999999) (at_ := 260 + 7 * c + 1) (by omega) (by omega)).num (T := T) (lo := 1) (hi := 9999) (at_ := 260 + 7 * c + 2) (by omega) (by omega)).mono (by
      rintro Y ⟨Y1, ⟨Y2, ⟨_, _, rfl⟩, _, _, rfl⟩, _, _, rfl⟩
      exact (((Ex.rf.rup (by omega) (by omega)).rup (by omega) (by omega)).rup (by omega) (by omega)))
    have s3 := s2.age (T := T) (at_ := 260 + 7 * c + 3) (b := b) (c := c) (RA := RA) (SA := SA) (fun Y k => by
      refine ⟨?_, ?_, ?_, ?_⟩
      · rw [xI, k 1 (by omega)]; exact e5
      · rw [xI, k 2 (by omega)]; exact e6
      · intro t ht; rw [k _ (by omega)]; exact hR t ht
      · intro t ht; rw [k _ (by omega)]; exact hS t ht)
    rcases s3 with ⟨Z, e, f0, hn, Y, k, v1, v2, eZ⟩ | ⟨g1, g2, g3⟩
    · rw [mb_t (by rw [e]), e]
      left
      refine ⟨rfl, ?_⟩
      simp only at f0 hn
      rw [f0]
      generalize (cAge T n b c RA SA _).2.2 = v at eZ
      refine sim_store_end hs0 hn (by omega) ?_ ?_ ?_
      · intro j h1 h2; subst eZ; dsimp only; rw [rup_ne (by omega), rup_ne (by omega), rup_ne (by omega)]; exact k j (by omega)
      · exact rup_at rfl
      · subst eZ; dsimp only; rw [rup_ne (by omega), rup_ne (by omega), rup_at (by omega)]
    · rw [mb_f g1]
      exact Or.inr ⟨g1, g2, g3⟩
theorem sim_right_end {n p w a b c p1 w1 v : Int} {D Q K RA SA X Z : RwF} (hs : Sim n (p, 0, w, a, b, c, D, Q, K, RA, SA) (p, w, X)) (hp : p1 ≤ n) (hc : b < 14)
    (h1 : ∀ j : Nat, j ≠ 1 → (j < 78 + 13 * b.toNat ∨ 78 + 13 * b.toNat + 12 < j) → Z j = X j) (h2 : Z 1 = Int32.ofInt (b + 1)) (h3 : Z (78 + 13 * b.toNat + 4) = Int32.ofInt v) :
    Sim n (p1, 0, w1, a, b + 1, c, D, Q, K, rup RA b v, SA) (p1, w1, Z) := by
  obtain ⟨e1, hqn, e2, e3, e4, e5, e6, ha, hb, hc0, hD, hQ, hK, hZ, hR, hS⟩ := hs
  simp only at e1 e2 e3 e4 e5 e6 ha hb hc0 hD hQ hK hZ hR hS hqn
  have z0 : xI Z 0 = a := by rw [xI, h1 0 (by omega) (by omega)]; exact e4.symm
  have z2 : xI Z 2 = c := by rw [xI, h1 2 (by omega) (by omega)]; exact e6.symm
  have z1 : xI Z 1 = b + 1 := by rw [xI, h2]; exact toI (by omega) (by omega)
  rw [← e4] at ha hD hQ hK hZ
  rw [← e5] at hb hR
  rw [← e6] at hc0 hS
  unfold Sim
  simp only [z0, z1, z2]
  refine ⟨trivial, hp, trivial, trivial, trivial, trivial, trivial, ha, by omega, hc0, ?_, ?_, ?_, ?_, ?_, ?_⟩
  · intro r hr; rw [xI, xI, h1 _ (by omega) (by omega)]; exact hD r hr
  · intro r q hr hq; rw [h1 _ (by omega) (by omega)]; exact hQ r q hr hq
  · intro r hr; rw [h1 _ (by omega) (by omega)]; exact hK r hr
  · intro r g1 g2; rw [xI, h1 _ (by omega) (by omega)]; exact hZ r g1 g2
  · intro t ht
    by_cases e : t = b.toNat
    · rw [rup_at e, e, h3]
    · rw [rup_ne e, h1 _ (by omega) (by omega)]; exact hR t (by omega)
  · intro t ht; rw [h1 _ (by omega) (by omega)]; exact hS t ht
theorem mTo_w {T : RwF} {n lo hi at_ : Int} {y : MSt} : (mTo T n lo hi at_ y).1 = true → (mTo T n lo hi at_ y).2.1 = 0 := by
  obtain ⟨p, w, X⟩ := y
  simp only [mTo]
  split <;> simp
theorem mOpt_w {T : RwF} {n lo hi at_ : Int} {u : List Int} {y : MSt} : (mOpt T n lo hi at_ u y).1 = true → (mOpt T n lo hi at_ u y).2.1 = 0 := by
  obtain ⟨p, w, X⟩ := y
  simp only [mOpt]
  split
  · exact mTo_w
  · simp
theorem Ch.back {T : RwF} {n w a : Int} {row : Nat} {x : Int × Int} {r : MRs} {X : RwF} {v : Int} (hr : 4 ≤ row) (ha : a ≤ 12) (h : Ch n x r w (fun Y => Ex X Y row (row + 12) ∧ Y (row + 4) = Int32.ofInt v ∧ xI Y 0 = a)) :
    Ch n ((if cIs T n x.1 x.2 wBack then (cNum T n 1 30 ((cNum T n 0 100 ((cNum T n 0 (a - 1) (cIp T n x.1 x.2 wBack, x.2)).1, (cNum T n 0 (a - 1) (cIp T n x.1 x.2 wBack, x.2)).2.1)).1, (cNum T n 0 100 ((cNum T n 0 (a - 1) (cIp T n x.1 x.2 wBack, x.2)).1, (cNum T n 0 (a - 1) (cIp T n x.1 x.2 wBack, x.2)).2.1)).2.1)).1 else cIp T n x.1 x.2 wBack),
      (if cIs T n x.1 x.2 wBack then (cNum T n 1 30 ((cNum T n 0 100 ((cNum T n 0 (a - 1) (cIp T n x.1 x.2 wBack, x.2)).1, (cNum T n 0 (a - 1) (cIp T n x.1 x.2 wBack, x.2)).2.1)).1, (cNum T n 0 100 ((cNum T n 0 (a - 1) (cIp T n x.1 x.2 wBack, x.2)).1, (cNum T n 0 (a - 1) (cIp T n x.1 x.2 wBack, x.2)).2.1)).2.1)).2.1 else x.2))
      (mb r (mBack T n row)) w (fun Y => Ex X Y row (row + 12) ∧ Y (row + 4) = Int32.ofInt v) := by
  refine h.step (fun Y hP h0 hn => ?_) (fun hne => by simp only [cIs_ne hne]; rfl)
  obtain ⟨p, f⟩ := x
  simp only at h0 hn
  subst h0
  obtain ⟨k, kv, ka⟩ := hP
  unfold mBack
  simp only [cIs0, cIp0, ka]
  by_cases hw : mIs T n p wBack = true
  · simp only [hw, if_true]
    refine (((ch_to (T := T) (n := n) (lo := 0) (hi := a - 1) (at_ := row + 7) (w := w) (X := rup Y (row + 7) (-2)) (mIp_le (T := T) (w := wBack) hn) (by omega) (by omega)).num (T := T) (lo := 0) (hi := 100) (at_ := row + 8) (by omega) (by omega)).num (T := T) (lo := 1) (hi := 30) (at_ := row + 9) (by omega) (by omega)).mono ?_
    rintro Z ⟨Y1, ⟨Y2, ⟨_, _, rfl⟩, _, _, rfl⟩, _, _, rfl⟩
    refine ⟨(((k.rup (by omega) (by omega)).rup (by omega) (by omega)).rup (by omega) (by omega)).rup (by omega) (by omega), ?_⟩
    rw [rup_ne (by omega), rup_ne (by omega), rup_ne (by omega), rup_ne (by omega)]; exact kv
  · have hw' : mIs T n p wBack = false := by simpa using hw
    simp only [hw', Bool.false_eq_true, if_false]
    exact Or.inl ⟨_, rfl, rfl, mIp_le hn, k.rup (by omega) (by omega), by rw [rup_ne (by omega)]; exact kv⟩
theorem sim_right {T : RwF} {n q w : Int} {x : CSt} {X : RwF} (hs : Sim n x (q, w, X)) (hl : q + 5 ≤ n) : CMP n (cRight T n q (q + 5, 0, x.2.2)) (mRight T n (q, w, X)) := by
  obtain ⟨p, f, w0, a, b, c, D, Q, K, RA, SA⟩ := x
  have hs0 := hs
  obtain ⟨e1, hqn, e2, e3, e4, e5, e6, ha, hb, hc, hD, hQ, hK, hZ, hR, hS⟩ := hs
  simp only at e1 e2 e3 e4 e5 e6 ha hb hc hD hQ hK hZ hR hS hqn
  subst e1 e2 e3
  rw [← e4] at ha hD hQ hK hZ
  rw [← e5] at hb hR
  rw [← e6] at hc hS
  unfold CMP cRight mRight
  simp only [← e4, ← e5]
  by_cases hc4 : b = 14
  · rw [if_pos (show (14:Int) ≤ b by omega), if_pos hc4]
    exact Or.inr ⟨rfl, by show 8 * p + 3 ≠ 0; omega, by show cBl 0 p 3 = 8 * p + 3; exact if_pos rfl⟩
  · rw [if_neg (show ¬ (14:Int) ≤ b by omega), if_neg hc4]
    obtain ⟨b', hb'⟩ : ∃ b' : Nat, b = (b' : Int) := ⟨b.toNat, by omega⟩
    subst hb'
    have s2 := (((ch_to (T := T) (n := n) (lo := 0) (hi := a - 1) (at_ := 78 + 13 * b') (p := p + 5) (w := w0) (X := X) hl (by omega) (by omega)).num (T := T) (lo := 1) (hi := 9999) (at_ := 78 + 13 * b' + 1) (by omega) (by omega)).num (T := T) (lo := 0) (hi := 359) (at_ := 78 + 13 * b' + 2) (by omega) (by omega))
    generalize cNum T n 0 (a - 1) (p + 5, 0) = x0 at s2 ⊢
    generalize cNum T n 1 9999 (x0.1, x0.2.1) = x1 at s2 ⊢
    generalize cNum T n 0 359 (x1.1, x1.2.1) = x2 at s2 ⊢
    replace s2 := s2.mono (P' := fun Z => Ex X Z (78 + 13 * b') (78 + 13 * b' + 12) ∧ 0 ≤ x2.2.2 ∧ xI Z (78 + 13 * b' + 2) = x2.2.2) (by
      rintro Y ⟨Y1, ⟨Y2, ⟨_, _, rfl⟩, _, _, rfl⟩, v1, v2, rfl⟩
      refine ⟨(((Ex.rf.rup (by omega) (by omega)).rup (by omega) (by omega)).rup (by omega) (by omega)), v1, ?_⟩
      rw [xI, rup_at (by omega)]
      exact toI (by omega) (by omega))
    have s3 : Ch n ((cNum T n x2.2.2 359 (x2.1, x2.2.1)).1, (cNum T n x2.2.2 359 (x2.1, x2.2.1)).2.1) (mb _ (fun y => mTo T n (xI y.2.2 (78 + 13 * (b' : Int) + 2).toNat) 359 (78 + 13 * b' + 3) (y.1, y.2.1, y.2.2))) w0 (fun Z => Ex X Z (78 + 13 * b') (78 + 13 * b' + 12)) := s2.step (fun Y hP h0 hn => by
      obtain ⟨k, v1, v2⟩ := hP
      obtain ⟨i0, i1, i2⟩ := x2
      simp only at h0 hn v1 v2
      subst h0
      have e : (78 + 13 * (b' : Int) + 2).toNat = 78 + 13 * b' + 2 := by omega
      simp only [e, v2]
      refine (ch_to (T := T) (n := n) (lo := i2) (hi := 359) (at_ := 78 + 13 * b' + 3) (p := i0) (w := w0) (X := Y) hn v1 (by omega)).mono ?_
      rintro Z ⟨_, _, rfl⟩
      exact k.rup (by omega) (by omega)) (fun hne => cNum_ne hne)
    generalize cNum T n x2.2.2 359 (x2.1, x2.2.1) = x3 at s3 ⊢
    have s4 := s3.age (T := T) (at_ := 78 + 13 * b' + 4) (b := b') (c := c) (RA := RA) (SA := SA) (fun Y k => by
      refine ⟨?_, ?_, ?_, ?_⟩
      · rw [xI, k 1 (by omega)]; exact e5
      · rw [xI, k 2 (by omega)]; exact e6
      · intro t ht; rw [k _ (by omega)]; exact hR t ht
      · intro t ht; rw [k _ (by omega)]; exact hS t ht)
    generalize cAge T n b' c RA SA (x3.1, x3.2.1) = x4 at s4 ⊢
    have s5 : Ch n ((cOpt T n 1 999999 0 wVol (x4.1, x4.2.1)).1, (cOpt T n 1 999999 0 wVol (x4.1, x4.2.1)).2.1) (mb _ (fun y => mOpt T n 1 999999 (78 + 13 * b' + 5) wVol (y.1, y.2.1, rup y.2.2 (78 + 13 * b' + 5) (-2)))) w0 (fun Y => Ex X Y (78 + 13 * b') (78 + 13 * b' + 12) ∧ Y (78 + 13 * b' + 4) = Int32.ofInt x4.2.2 ∧ xI Y 0 = a) := s4.step (fun Y hP h0 hn => by
      obtain ⟨Y1, k, v1, v2, rfl⟩ := hP
      obtain ⟨i0, i1, i2⟩ := x4
      simp only at h0 hn v1 v2
      subst h0
      rcases cm_opt (T := T) (w := w0) (X := rup (rup Y1 (78 + 13 * b' + 4) i2) (78 + 13 * b' + 5) (-2)) (at_ := 78 + 13 * b' + 5) (u := wVol) (d := 0) hn (show (0 : Int) ≤ 1 by omega) (show (999999 : Int) ≤ 999999 by omega) with ⟨g, h5, v, h3, h4⟩ | hb
      · have h6 := mOpt_w g
        simp only [h3]
        rcases h4 with ⟨_, _, h4⟩ | ⟨_, h4⟩
        · refine Or.inl ⟨_, Prod.ext g (Prod.ext h6 (Prod.ext rfl h4)), rfl, h5, ((k.rup (by omega) (by omega)).rup (by omega) (by omega)).rup (by omega) (by omega), ?_, ?_⟩
          · rw [rup_ne (by omega), rup_ne (by omega), rup_at (by omega)]
          · rw [xI, rup_ne (by omega), rup_ne (by omega), rup_ne (by omega), k 0 (by omega)]; exact e4.symm
        · refine Or.inl ⟨_, Prod.ext g (Prod.ext h6 (Prod.ext rfl h4)), rfl, h5, (k.rup (by omega) (by omega)).rup (by omega) (by omega), ?_, ?_⟩
          · rw [rup_ne (by omega), rup_at (by omega)]
          · rw [xI, rup_ne (by omega), rup_ne (by omega), k 0 (by omega)]; exact e4.symm
      · exact Or.inr hb) (fun hne => cOpt_ne hne)
    generalize cOpt T n 1 999999 0 wVol (x4.1, x4.2.1) = x5 at s5 ⊢
    have s6 := Ch.back (T := T) (by omega) ha.2 s5
    rw [show ((78 + 13 * b' : Nat) : Int) = 78 + 13 * (b' : Int) by omega] at s6
    rcases s6 with ⟨Z, e, f0, hn, k, kv⟩ | ⟨g1, g2, g3⟩
    · rw [mb_t (by rw [e]), e]
      left
      refine ⟨rfl, ?_⟩
      simp only at f0 hn
      rw [f0]
      refine sim_right_end hs0 hn (by omega) ?_ ?_ ?_
      · intro j h1 h2; dsimp only; rw [rup_ne (by omega), rup_ne (by omega), rup_ne (by omega), rup_ne (by omega)]; exact k j (by omega)
      · exact rup_at rfl
      · dsimp only; rw [rup_ne (by omega), rup_ne (by omega), rup_ne (by omega), rup_ne (by omega)]; exact kv
    · rw [mb_f g1]
      exact Or.inr ⟨g1, g2, g3⟩
theorem i32 {x y : Int32} (h : x.toInt = y.toInt) : x = y := Int32.toInt_inj.mp h
theorem sim_reach_end {n p w a b c p1 w1 d d0 v1 v2 v3 v4 v5 : Int} {D Q K RA SA X Z : RwF} (hs : Sim n (p, 0, w, a, b, c, D, Q, K, RA, SA) (p, w, X)) (hp : p1 ≤ n) (ha : a < 12)
    (h1 : ∀ j : Nat, j ≠ 0 → (j < 6 + 6 * a.toNat ∨ 6 + 6 * a.toNat + 5 < j) → Z j = X j) (h2 : Z 0 = Int32.ofInt (a + 1))
    (h3 : Z (6 + 6 * a.toNat) = Int32.ofInt d0) (hd : (d = -2 ∧ d0 = -1) ∨ (0 ≤ d ∧ d < a ∧ d0 = d))
    (q1 : Z (6 + 6 * a.toNat + 2) = Int32.ofInt v1) (q2 : Z (6 + 6 * a.toNat + 3) = Int32.ofInt v2) (q3 : Z (6 + 6 * a.toNat + 4) = Int32.ofInt v3) (q4 : Z (6 + 6 * a.toNat + 5) = Int32.ofInt v4)
    (q5 : Z (6 + 6 * a.toNat + 1) = Int32.ofInt v5) :
    Sim n (p1, 0, w1, a + 1, b, c, rup D a d, rup (rup (rup (rup Q (a * 4) v1) (a * 4 + 1) v2) (a * 4 + 2) v3) (a * 4 + 3) v4, rup K a v5, RA, SA) (p1, w1, Z) := by
  obtain ⟨e1, hqn, e2, e3, e4, e5, e6, ha0, hb, hc0, hD, hQ, hK, hZ, hR, hS⟩ := hs
  simp only at e1 e2 e3 e4 e5 e6 ha0 hb hc0 hD hQ hK hZ hR hS hqn
  have z1 : xI Z 1 = b := by rw [xI, h1 1 (by omega) (by omega)]; exact e5.symm
  have z2 : xI Z 2 = c := by rw [xI, h1 2 (by omega) (by omega)]; exact e6.symm
  have z0 : xI Z 0 = a + 1 := by rw [xI, h2]; exact toI (by omega) (by omega)
  rw [← e4] at ha0 hD hQ hK hZ
  rw [← e5] at hb hR
  rw [← e6] at hc0 hS
  obtain ⟨a', ea⟩ : ∃ a' : Nat, a = (a' : Int) := ⟨a.toNat, by omega⟩
  subst ea
  rw [Int.toNat_natCast] at h1 h3 q1 q2 q3 q4 q5 hD hQ hK hZ
  unfold Sim
  simp only [z0, z1, z2]
  refine ⟨trivial, hp, trivial, trivial, trivial, trivial, trivial, by omega, hb, hc0, ?_, ?_, ?_, ?_, ?_, ?_⟩
  · intro r hr
    by_cases e : r = a'
    · subst e
      rw [xI, xI, rup_at (by omega), h3]
      rcases hd with ⟨g1, g2⟩ | ⟨g1, g2, g3⟩
      · left; subst g1 g2; exact ⟨toI (by omega) (by omega), toI (by omega) (by omega)⟩
      · right; subst g3; rw [toI (by omega) (by omega)]; exact ⟨g1, by omega, rfl⟩
    · rw [xI, xI, h1 _ (by omega) (by omega), rup_ne (by omega)]; exact hD r (by omega)
  · intro r q hr hq
    by_cases e : r = a'
    · subst e
      have : q = 0 ∨ q = 1 ∨ q = 2 ∨ q = 3 := by omega
      rcases this with e | e | e | e
      · subst e; rw [rup_ne (by omega), rup_ne (by omega), rup_ne (by omega), rup_at (by omega)]; exact q1.symm
      · subst e; rw [rup_ne (by omega), rup_ne (by omega), rup_at (by omega)]; exact q2.symm
      · subst e; rw [rup_ne (by omega), rup_at (by omega)]; exact q3.symm
      · subst e; rw [rup_at (by omega)]; exact q4.symm
    · rw [h1 _ (by omega) (by omega), rup_ne (by omega), rup_ne (by omega), rup_ne (by omega), rup_ne (by omega)]; exact hQ r q (by omega) hq
  · intro r hr
    by_cases e : r = a'
    · subst e; rw [rup_at (by omega)]; exact q5.symm
    · rw [h1 _ (by omega) (by omega), rup_ne (by omega)]; exact hK r (by omega)
  · intro r g1 g2; rw [xI, h1 _ (by omega) (by omega)]; exact hZ r g1 (by omega)
  · intro t ht; rw [h1 _ (by omega) (by omega)]; exact hR t ht
  · intro t ht; rw [h1 _ (by omega) (by omega)]; exact hS t ht
theorem sim_reach {T : RwF} {n q w : Int} {x : CSt} {X : RwF} (hs : Sim n x (q, w, X)) (hl : q + 5 ≤ n) : CMP n (cReach T n q (q + 5, 0, x.2.2)) (mReach T n (q, w, X)) := by
  obtain ⟨p, f, w0, a, b, c, D, Q, K, RA, SA⟩ := x
  have hs0 := hs
  obtain ⟨e1, hqn, e2, e3, e4, e5, e6, ha, hb, hc, hD, hQ, hK, hZ, hR, hS⟩ := hs
  simp only at e1 e2 e3 e4 e5 e6 ha hb hc hD hQ hK hZ hR hS hqn
  subst e1 e2 e3
  rw [← e4] at ha hD hQ hK hZ
  rw [← e5] at hb hR
  rw [← e6] at hc hS
  unfold CMP cReach mReach
  simp only [← e4]
  by_cases hc4 : a = 12
  · rw [if_pos (show (12:Int) ≤ a by omega), if_pos hc4]
    exact Or.inr ⟨rfl, by show 8 * p + 3 ≠ 0; omega, by show cBl 0 p 3 = 8 * p + 3; exact if_pos rfl⟩
  · rw [if_neg (show ¬ (12:Int) ≤ a by omega), if_neg hc4]
    obtain ⟨a', ea⟩ : ∃ a' : Nat, a = (a' : Int) := ⟨a.toNat, by omega⟩
    subst ea
    simp only [cIs0, cIp0]
    have s0 : Ch n ((if mIs T n (p + 5) wMouth = true then (mIp T n (p + 5) wMouth, (0:Int), (-2:Int)) else cNum T n 0 (a' - 1) (mIp T n (p + 5) wMouth, 0)).1, (if mIs T n (p + 5) wMouth = true then (mIp T n (p + 5) wMouth, (0:Int), (-2:Int)) else cNum T n 0 (a' - 1) (mIp T n (p + 5) wMouth, 0)).2.1)
        (if mIs T n (p + 5) wMouth = true then (true, 0, mIp T n (p + 5) wMouth, w0, rup X (6 + 6 * a') (-1)) else mTo T n 0 (a' - 1) (6 + 6 * a') (mIp T n (p + 5) wMouth, w0, rup X (6 + 6 * a') (-1))) w0
        (fun Y => Ex X Y (6 + 6 * a') (6 + 6 * a') ∧ ∃ d0, Y (6 + 6 * a') = Int32.ofInt d0 ∧ (((if mIs T n (p + 5) wMouth = true then (mIp T n (p + 5) wMouth, (0:Int), (-2:Int)) else cNum T n 0 (a' - 1) (mIp T n (p + 5) wMouth, 0)).2.2 = -2 ∧ d0 = -1) ∨ (0 ≤ (if mIs T n (p + 5) wMouth = true then (mIp T n (p + 5) wMouth, (0:Int), (-2:Int)) else cNum T n 0 (a' - 1) (mIp T n (p + 5) wMouth, 0)).2.2 ∧ (if mIs T n (p + 5) wMouth = true then (mIp T n (p + 5) wMouth, (0:Int), (-2:Int)) else cNum T n 0 (a' - 1) (mIp T n (p + 5) wMouth, 0)).2.2 < a' ∧ d0 = (if mIs T n (p + 5) wMouth = true then (mIp T n (p + 5) wMouth, (0:Int), (-2:Int)) else cNum T n 0 (a' - 1) (mIp T n (p + 5) wMouth, 0)).2.2))) := by
      by_cases hm : mIs T n (p + 5) wMouth = true
      · simp only [hm, if_true]
        exact Or.inl ⟨_, rfl, rfl, mIp_le hl, Ex.rf.rup (by omega) (by omega), -1, rup_at (by omega), Or.inl (by simp)⟩
      · simp only [if_neg hm]
        refine (ch_to (T := T) (n := n) (lo := 0) (hi := a' - 1) (at_ := 6 + 6 * a') (w := w0) (X := rup X (6 + 6 * a') (-1)) (mIp_le (T := T) (w := wMouth) hl) (by omega) (by omega)).mono ?_
        rintro Z ⟨g1, g2, rfl⟩
        exact ⟨(Ex.rf.rup (by omega) (by omega)).rup (by omega) (by omega), _, rup_at (by omega), Or.inr ⟨g1, by omega, rfl⟩⟩
    generalize (if mIs T n (p + 5) wMouth = true then (mIp T n (p + 5) wMouth, (0:Int), (-2:Int)) else cNum T n 0 (a' - 1) (mIp T n (p + 5) wMouth, 0)) = x0 at s0 ⊢
    have s4 := (((s0.num (T := T) (lo := 0) (hi := 9999) (at_ := 6 + 6 * a' + 2) (by omega) (by omega)).num (T := T) (lo := 0) (hi := 9999) (at_ := 6 + 6 * a' + 3) (by omega) (by omega)).num (T := T) (lo := 0) (hi := 9999) (at_ := 6 + 6 * a' + 4) (by omega) (by omega)).num (T := T) (lo := 0) (hi := 9999) (at_ := 6 + 6 * a' + 5) (by omega) (by omega)
    generalize cNum T n 0 9999 (x0.1, x0.2.1) = x1 at s4 ⊢
    generalize cNum T n 0 9999 (x1.1, x1.2.1) = x2 at s4 ⊢
    generalize cNum T n 0 9999 (x2.1, x2.2.1) = x3 at s4 ⊢
    generalize cNum T n 0 9999 (x3.1, x3.2.1) = x4 at s4 ⊢
    have s5 := s4.opt (T := T) (lo := 0) (hi := 9999) (d := 0) (u := wSink) (at_ := 6 + 6 * a' + 1) (by omega) (by omega)
    generalize cOpt T n 0 9999 0 wSink (x4.1, x4.2.1) = x5 at s5 ⊢
    rcases s5 with ⟨Z, e, f0, hn, Y, ⟨Y3, ⟨Y2, ⟨Y1, ⟨Y0, ⟨k, d0, kd, hd⟩, _, _, rfl⟩, _, _, rfl⟩, _, _, rfl⟩, _, _, rfl⟩, hz⟩ | ⟨g1, g2, g3⟩
    · rw [mb_t (by rw [e]), e]
      left
      refine ⟨rfl, ?_⟩
      simp only at f0 hn
      rw [f0]
      have hZ0 : ∀ j : Nat, j ≠ 6 + 6 * a' + 1 → Z j = (rup (rup (rup (rup Y0 (6 + 6 * a' + 2) x1.2.2) (6 + 6 * a' + 3) x2.2.2) (6 + 6 * a' + 4) x3.2.2) (6 + 6 * a' + 5) x4.2.2) j := by
        intro j hj
        rcases hz with ⟨_, _, hz⟩ | ⟨_, hz⟩
        · rw [hz, rup_ne (by omega)]
        · rw [hz]
      have hZ5 : Z (6 + 6 * a' + 1) = Int32.ofInt x5.2.2 := by
        rcases hz with ⟨_, _, hz⟩ | ⟨h0, hz⟩
        · rw [hz, rup_at (by omega)]
        · rw [hz, rup_ne (by omega), rup_ne (by omega), rup_ne (by omega), rup_ne (by omega), k _ (by omega), h0]
          exact i32 (hZ a' (by omega) (by omega))
      refine sim_reach_end (d0 := d0) hs0 hn (by omega) ?_ ?_ ?_ hd ?_ ?_ ?_ ?_ ?_
      · intro j h1 h2; dsimp only; rw [rup_ne (by omega), hZ0 j (by omega), rup_ne (by omega), rup_ne (by omega), rup_ne (by omega), rup_ne (by omega)]; exact k j (by omega)
      · exact rup_at rfl
      · dsimp only; rw [rup_ne (by omega), hZ0 _ (by omega), rup_ne (by omega), rup_ne (by omega), rup_ne (by omega), rup_ne (by omega)]; exact kd
      · dsimp only; rw [rup_ne (by omega), hZ0 _ (by omega), rup_ne (by omega), rup_ne (by omega), rup_ne (by omega), rup_at (by omega)]
      · dsimp only; rw [rup_ne (by omega), hZ0 _ (by omega), rup_ne (by omega), rup_ne (by omega), rup_at (by omega)]
      · dsimp only; rw [rup_ne (by omega), hZ0 _ (by omega), rup_ne (by omega), rup_at (by omega)]
      · dsimp only; rw [rup_ne (by omega), hZ0 _ (by omega), rup_at (by omega)]
      · dsimp only; rw [rup_ne (by omega)]; exact hZ5
    · rw [mb_f g1]
      exact Or.inr ⟨g1, g2, g3⟩
theorem cIsq {T : RwF} {n p : Int} {w : List Int} : cIs T n (rsk T n p) 0 w = rwd T n (rsk T n p) w := by simp [cIs, rsk_rsk]
theorem cIpq {T : RwF} {n p : Int} {w : List Int} (h : rwd T n (rsk T n p) w = true) : cIp T n (rsk T n p) 0 w = rsk T n p + w.length := by
  simp [cIp, rsk_rsk, h]
theorem Sim.at {n p q w : Int} {x : CSt} {X : RwF} (hs : Sim n x (p, w, X)) (h : q ≤ n) : Sim n (q, 0, x.2.2) (q, w, X) := by
  obtain ⟨e1, hqn, e2, h⟩ := hs
  exact ⟨rfl, by assumption, rfl, h⟩
theorem sim_part {T : RwF} {n : Int} {x : CSt} {y : MSt} (hs : Sim n x y) (h0 : 0 ≤ y.1) : CMP n (cPart T n x) (mPart T n y) := by
  obtain ⟨p, f, r⟩ := x
  obtain ⟨p1, w, X⟩ := y
  have hq := rsk_le (T := T) hs.2.1
  have e1 : p = p1 := hs.1
  have e2 : f = 0 := hs.2.2.1
  subst e1 e2
  simp only at hq h0
  have hs1 : Sim n (rsk T n p, 0, r) (rsk T n p, w, X) := hs.at hq.2
  unfold cPart mPart
  simp only [cIsq]
  by_cases h1 : rwd T n (rsk T n p) wReach = true
  · rw [if_pos h1, if_pos h1, cIpq h1]
    exact sim_reach hs1 (rwd_le h1)
  rw [if_neg h1, if_neg h1]
  by_cases h2 : rwd T n (rsk T n p) wRight = true
  · rw [if_pos h2, if_pos h2, cIpq h2]
    exact sim_right hs1 (rwd_le h2)
  rw [if_neg h2, if_neg h2]
  by_cases h3 : rwd T n (rsk T n p) wStore = true
  · rw [if_pos h3, if_pos h3, cIpq h3]
    exact sim_store hs1 (rwd_le h3)
  rw [if_neg h3, if_neg h3]
  by_cases h4 : rwd T n (rsk T n p) wWet = true
  · rw [if_pos h4, if_pos h4, cIpq h4]
    exact sim_wet hs1 (rwd_le h4) (by omega)
  rw [if_neg h4, if_neg h4]
  exact Or.inr ⟨rfl, by show 8 * _ + 1 ≠ (0 : Int); omega, by show cBl 0 _ 1 = _; exact if_pos rfl⟩
theorem cNum_le {T : RwF} {n lo hi : Int} {q : Int × Int} (h : q.1 ≤ n) : q.1 ≤ (cNum T n lo hi q).1 ∧ (cNum T n lo hi q).1 ≤ n := by
  have h1 := rsk_le (T := T) h
  have h2 := rde_le (T := T) h1.2
  show q.1 ≤ rde T n (rsk T n q.1) ∧ _
  exact ⟨by omega, h2.2⟩
theorem cIp_le {T : RwF} {n p f : Int} {w : List Int} (h : p ≤ n) : p ≤ cIp T n p f w ∧ cIp T n p f w ≤ n := by
  have h1 := rsk_le (T := T) h
  unfold cIp
  split
  · rename_i h2
    simp only [cIs, Bool.and_eq_true] at h2
    have := rwd_le h2.2
    omega
  · exact h1
theorem cOpt_le {T : RwF} {n lo hi d : Int} {w : List Int} {q : Int × Int} (h : q.1 ≤ n) : q.1 ≤ (cOpt T n lo hi d w q).1 ∧ (cOpt T n lo hi d w q).1 ≤ n := by
  have h1 := cIp_le (T := T) (f := q.2) (w := w) h
  unfold cOpt
  by_cases hw : cIs T n q.1 q.2 w = true
  · rw [if_pos hw]
    have := cNum_le (T := T) (lo := lo) (hi := hi) (q := (cIp T n q.1 q.2 w, q.2)) h1.2
    simp only at this
    omega
  · rw [if_neg hw]
    exact h1
theorem cAge_le {T : RwF} {n b c : Int} {RA SA : RwF} {q : Int × Int} (h : q.1 ≤ n) : q.1 ≤ (cAge T n b c RA SA q).1 ∧ (cAge T n b c RA SA q).1 ≤ n := by
  have h1 := cIp_le (T := T) (f := q.2) (w := wAge) h
  have h2 := cNum_le (T := T) (lo := 0) (hi := 9999) (q := (cIp T n q.1 q.2 wAge, if cIs T n q.1 q.2 wAge then q.2 else cBl q.2 (cIp T n q.1 q.2 wAge) 1)) h1.2
  unfold cAge
  simp only at h2 ⊢
  omega
theorem cReach_le {T : RwF} {n s : Int} {x : CSt} (h : x.1 ≤ n) : x.1 ≤ (cReach T n s x).1 ∧ (cReach T n s x).1 ≤ n := by
  obtain ⟨p, f, w0, a, b, c, D, Q, K, RA, SA⟩ := x
  simp only at h
  unfold cReach
  simp only
  split
  · exact ⟨Int.le_refl _, h⟩
  have h1 := cIp_le (T := T) (f := f) (w := wMouth) h
  have h2 : cIp T n p f wMouth ≤ (if cIs T n p f wMouth = true then (cIp T n p f wMouth, f, (-2 : Int)) else cNum T n 0 (a - 1) (cIp T n p f wMouth, f)).1 ∧ (if cIs T n p f wMouth = true then (cIp T n p f wMouth, f, (-2 : Int)) else cNum T n 0 (a - 1) (cIp T n p f wMouth, f)).1 ≤ n := by
    by_cases hw : cIs T n p f wMouth = true
    · rw [if_pos hw]
      exact ⟨Int.le_refl _, h1.2⟩
    · rw [if_neg hw]
      exact cNum_le h1.2
  simp only
  generalize (if cIs T n p f wMouth = true then (cIp T n p f wMouth, f, (-2 : Int)) else cNum T n 0 (a - 1) (cIp T n p f wMouth, f)) = x0 at h2 ⊢
  have g1 := cNum_le (T := T) (lo := 0) (hi := 9999) (q := (x0.1, x0.2.1)) h2.2
  generalize cNum T n 0 9999 (x0.1, x0.2.1) = x1 at g1 ⊢
  have g2 := cNum_le (T := T) (lo := 0) (hi := 9999) (q := (x1.1, x1.2.1)) g1.2
  generalize cNum T n 0 9999 (x1.1, x1.2.1) = x2 at g2 ⊢
  have g3 := cNum_le (T := T) (lo := 0) (hi := 9999) (q := (x2.1, x2.2.1)) g2.2
  generalize cNum T n 0 9999 (x2.1, x2.2.1) = x3 at g3 ⊢
  have g4 := cNum_le (T := T) (lo := 0) (hi := 9999) (q := (x3.1, x3.2.1)) g3.2
  generalize cNum T n 0 9999 (x3.1, x3.2.1) = x4 at g4 ⊢
  have g5 := cOpt_le (T := T) (lo := 0) (hi := 9999) (d := 0) (w := wSink) (q := (x4.1, x4.2.1)) g4.2
  simp only at g1 g2 g3 g4 g5
  omega
theorem cRight_le {T : RwF} {n s : Int} {x : CSt} (h : x.1 ≤ n) : x.1 ≤ (cRight T n s x).1 ∧ (cRight T n s x).1 ≤ n := by
  obtain ⟨p, f, w0, a, b, c, D, Q, K, RA, SA⟩ := x
  simp only at h
  unfold cRight
  simp only
  split
  · exact ⟨Int.le_refl _, h⟩
  have g0 := cNum_le (T := T) (lo := 0) (hi := a - 1) (q := (p, f)) h
  simp only
  generalize cNum T n 0 (a - 1) (p, f) = x0 at g0 ⊢
  have g1 := cNum_le (T := T) (lo := 1) (hi := 9999) (q := (x0.1, x0.2.1)) g0.2
  generalize cNum T n 1 9999 (x0.1, x0.2.1) = x1 at g1 ⊢
  have g2 := cNum_le (T := T) (lo := 0) (hi := 359) (q := (x1.1, x1.2.1)) g1.2
  generalize cNum T n 0 359 (x1.1, x1.2.1) = x2 at g2 ⊢
  have g3 := cNum_le (T := T) (lo := x2.2.2) (hi := 359) (q := (x2.1, x2.2.1)) g2.2
  generalize cNum T n x2.2.2 359 (x2.1, x2.2.1) = x3 at g3 ⊢
  have g4 := cAge_le (T := T) (b := b) (c := c) (RA := RA) (SA := SA) (q := (x3.1, x3.2.1)) g3.2
  generalize cAge T n b c RA SA (x3.1, x3.2.1) = x4 at g4 ⊢
  have g5 := cOpt_le (T := T) (lo := 1) (hi := 999999) (d := 0) (w := wVol) (q := (x4.1, x4.2.1)) g4.2
  generalize cOpt T n 1 999999 0 wVol (x4.1, x4.2.1) = x5 at g5 ⊢
  have g6 := cIp_le (T := T) (f := x5.2.1) (w := wBack) g5.2
  have g7 := cNum_le (T := T) (lo := 0) (hi := a - 1) (q := (cIp T n x5.1 x5.2.1 wBack, x5.2.1)) g6.2
  generalize cNum T n 0 (a - 1) (cIp T n x5.1 x5.2.1 wBack, x5.2.1) = x6 at g7 ⊢
  have g8 := cNum_le (T := T) (lo := 0) (hi := 100) (q := (x6.1, x6.2.1)) g7.2
  generalize cNum T n 0 100 (x6.1, x6.2.1) = x7 at g8 ⊢
  have g9 := cNum_le (T := T) (lo := 1) (hi := 30) (q := (x7.1, x7.2.1)) g8.2
  generalize cNum T n 1 30 (x7.1, x7.2.1) = x8 at g9 ⊢
  simp only at g0 g1 g2 g3 g4 g5 g6 g7 g8 g9
  by_cases hw : cIs T n x5.1 x5.2.1 wBack = true
  · rw [if_pos hw]; omega
  · rw [if_neg hw]; omega
theorem cStore_le {T : RwF} {n s : Int} {x : CSt} (h : x.1 ≤ n) : x.1 ≤ (cStore T n s x).1 ∧ (cStore T n s x).1 ≤ n := by
  obtain ⟨p, f, w0, a, b, c, D, Q, K, RA, SA⟩ := x
  simp only at h
  unfold cStore
  simp only
  split
  · exact ⟨Int.le_refl _, h⟩
  have g0 := cNum_le (T := T) (lo := 0) (hi := a - 1) (q := (p, f)) h
  simp only
  generalize cNum T n 0 (a - 1) (p, f) = x0 at g0 ⊢
  have g1 := cNum_le (T := T) (lo := 1) (hi := 999999) (q := (x0.1, x0.2.1)) g0.2
  generalize cNum T n 1 999999 (x0.1, x0.2.1) = x1 at g1 ⊢
  have g2 := cNum_le (T := T) (lo := 1) (hi := 9999) (q := (x1.1, x1.2.1)) g1.2
  generalize cNum T n 1 9999 (x1.1, x1.2.1) = x2 at g2 ⊢
  have g4 := cAge_le (T := T) (b := b) (c := c) (RA := RA) (SA := SA) (q := (x2.1, x2.2.1)) g2.2
  simp only at g0 g1 g2 g4
  omega
theorem cWet_le {T : RwF} {n s : Int} {x : CSt} (h : x.1 ≤ n) : x.1 ≤ (cWet T n s x).1 ∧ (cWet T n s x).1 ≤ n := by
  obtain ⟨p, f, w0, a, b, c, D, Q, K, RA, SA⟩ := x
  simp only at h
  unfold cWet
  simp only
  split
  · exact ⟨Int.le_refl _, h⟩
  exact cNum_le (T := T) (lo := 0) (hi := 400) (q := (p, f)) h
theorem cPart_le {T : RwF} {n : Int} {x : CSt} (h : x.1 ≤ n) : x.1 ≤ (cPart T n x).1 ∧ (cPart T n x).1 ≤ n := by
  obtain ⟨p, f, r⟩ := x
  simp only at h
  have h1 := rsk_le (T := T) h
  have hi : ∀ w, rsk T n p ≤ cIp T n (rsk T n p) f w ∧ cIp T n (rsk T n p) f w ≤ n := fun w => cIp_le h1.2
  unfold cPart
  simp only
  by_cases hReach : cIs T n (rsk T n p) f wReach = true
  · rw [if_pos hReach]
    have := hi wReach; have := cReach_le (T := T) (s := rsk T n p) (x := (cIp T n (rsk T n p) f wReach, f, r)) this.2; simp only at this; omega
  rw [if_neg hReach]
  by_cases hRight : cIs T n (rsk T n p) f wRight = true
  · rw [if_pos hRight]
    have := hi wRight; have := cRight_le (T := T) (s := rsk T n p) (x := (cIp T n (rsk T n p) f wRight, f, r)) this.2; simp only at this; omega
  rw [if_neg hRight]
  by_cases hStore : cIs T n (rsk T n p) f wStore = true
  · rw [if_pos hStore]
    have := hi wStore; have := cStore_le (T := T) (s := rsk T n p) (x := (cIp T n (rsk T n p) f wStore, f, r)) this.2; simp only at this; omega
  rw [if_neg hStore]
  by_cases hWet : cIs T n (rsk T n p) f wWet = true
  · rw [if_pos hWet]
    have := hi wWet; have := cWet_le (T := T) (s := rsk T n p) (x := (cIp T n (rsk T n p) f wWet, f, r)) this.2; simp only at this; omega
  · rw [if_neg hWet]; exact h1
theorem sim_all {T : RwF} {n : Int} : ∀ (k : Nat) {x : CSt} {y : MSt}, Sim n x y → 0 ≤ y.1 → CMP n (cAll T n k x) (mAll T n k y)
  | 0, x, y, hs, _ => Or.inl ⟨rfl, hs⟩
  | k + 1, x, y, hs, h0 => by
    have hm := cPart_le (T := T) (n := n) (x := x) (by rw [hs.1]; exact hs.2.1)
    have hx : x.1 = y.1 := hs.1
    rcases sim_part (T := T) hs h0 with ⟨g, hs1⟩ | ⟨g, ne, e⟩
    · rw [cAll, mAll]
      simp only [g, if_true]
      generalize mPart T n y = r at *
      generalize cPart T n x = x1 at *
      obtain ⟨p1, f1, r1⟩ := x1
      obtain ⟨rg, rw_, p2, w2, X2⟩ := r
      have e1 : p1 = p2 := hs1.1
      have e2 : f1 = 0 := hs1.2.2.1
      subst e1 e2
      simp only at hm hs1 ⊢
      have hq := rsk_le (T := T) hm.2
      unfold cBet
      simp only [ne_eq, not_true_eq_false, false_or]
      by_cases hn : n ≤ rsk T n p1
      · have n1 : ¬ (rsk T n p1 < n ∧ bT T (rsk T n p1) = 59) := by omega
        have n2 : ¬ (rsk T n p1 < n) := by omega
        simp only [if_pos hn, if_neg n1, if_neg n2, Bool.false_eq_true, if_false]
        exact Or.inl ⟨rfl, hs1.at hq.2⟩
      · simp only [if_neg hn]
        by_cases hb : bT T (rsk T n p1) = 59
        · have n1 : rsk T n p1 < n ∧ bT T (rsk T n p1) = 59 := ⟨by omega, hb⟩
          rw [if_pos n1]
          simp only [hb, not_true_eq_false, if_false, if_true]
          exact sim_all k (hs1.at (q := rsk T n p1 + 1) (by omega)) (by show 0 ≤ _ + 1; omega)
        · have n1 : ¬ (rsk T n p1 < n ∧ bT T (rsk T n p1) = 59) := fun q => hb q.2
          have n2 : rsk T n p1 < n := by omega
          simp only [if_neg n1, if_pos n2, if_pos hb, Bool.false_eq_true, if_false]
          exact Or.inr ⟨rfl, by show 8 * _ + 1 ≠ (0 : Int); omega, by show cBl 0 _ 1 = _; exact if_pos rfl⟩
    · rw [cAll, mAll]
      have hf : (cPart T n x).2.1 ≠ 0 := by rw [e]; exact ne
      simp only [g, Bool.false_eq_true, if_false]
      generalize cPart T n x = x1 at *
      obtain ⟨p1, f1, r1⟩ := x1
      simp only at hf e
      unfold cBet
      simp only [if_pos (Or.inl hf : f1 ≠ 0 ∨ n ≤ rsk T n p1), Bool.false_eq_true, if_false]
      exact Or.inr ⟨g, ne, e⟩
/-! the class's reading, as its rows meet it: numbers alone, the rows of ages -/
def jBl (f q k : Int) : Int := cBl f q k
def jIs (T : RwF) (n p f : Int) (w : List Int) : Int := if cIs T n p f w then 1 else 0
def jIp (T : RwF) (n p f : Int) (w : List Int) : Int := cIp T n p f w
def jNp (T : RwF) (n p : Int) : Int := cNp T n p
def jNf (T : RwF) (n p f lo hi : Int) : Int := cNf T n p f lo hi
def jNv (T : RwF) (n p lo hi : Int) : Int := cNv T n p lo hi
def jHas (RA SA : RwF) (b c v : Int) : Int := if rhas RA v b.toNat || rhas SA v c.toNat then 1 else 0
def jAp (T : RwF) (n b c : Int) (RA SA : RwF) (p f : Int) : Int := (cAge T n b c RA SA (p, f)).1
def jAf (T : RwF) (n b c : Int) (RA SA : RwF) (p f : Int) : Int := (cAge T n b c RA SA (p, f)).2.1
def jAv (T : RwF) (n b c : Int) (RA SA : RwF) (p f : Int) : Int := (cAge T n b c RA SA (p, f)).2.2
abbrev CRd := Int × Int × Int × Int × Int × Int × RwF × RwF
def rZ : RwF := fun _ => 0
def kLift (x : CRd) : CSt := (x.1, x.2.1, x.2.2.1, x.2.2.2.1, x.2.2.2.2.1, x.2.2.2.2.2.1, rZ, rZ, rZ, x.2.2.2.2.2.2.1, x.2.2.2.2.2.2.2)
def kDrop (x : CSt) : CRd := (x.1, x.2.1, x.2.2.1, x.2.2.2.1, x.2.2.2.2.1, x.2.2.2.2.2.1, x.2.2.2.2.2.2.2.2.2.1, x.2.2.2.2.2.2.2.2.2.2)
def kReach (T : RwF) (n st : Int) (x : CRd) : CRd := kDrop (cReach T n st (kLift x))
def kRight (T : RwF) (n st : Int) (x : CRd) : CRd := kDrop (cRight T n st (kLift x))
def kStore (T : RwF) (n st : Int) (x : CRd) : CRd := kDrop (cStore T n st (kLift x))
def kWet (T : RwF) (n st : Int) (x : CRd) : CRd := kDrop (cWet T n st (kLift x))
def kPart (T : RwF) (n : Int) (x : CRd) : CRd := kDrop (cPart T n (kLift x))
def jBv (T : RwF) (n p f : Int) : Int := if f ≠ 0 ∨ n ≤ rsk T n p then 0 else if bT T (rsk T n p) ≠ 59 then 0 else 1
def jBp (T : RwF) (n p f : Int) : Int := if f ≠ 0 ∨ n ≤ rsk T n p then rsk T n p else if bT T (rsk T n p) ≠ 59 then rsk T n p else rsk T n p + 1
def jBf (T : RwF) (n p f : Int) : Int := if f ≠ 0 ∨ n ≤ rsk T n p then f else if bT T (rsk T n p) ≠ 59 then cBl f (rsk T n p) 1 else f
def kAll (T : RwF) (n : Int) : Nat → CRd → CRd
  | 0, x => x
  | k + 1, x => let y := kPart T n x; let z : CRd := (jBp T n y.1 y.2.1, jBf T n y.1 y.2.1, y.2.2); if jBv T n y.1 y.2.1 = 1 then kAll T n k z else z
theorem kDrop_reach {T : RwF} {n s : Int} {x : CSt} : kDrop (cReach T n s x) = kReach T n s (kDrop x) := by
  obtain ⟨p, f, w0, a, b, c, D, Q, K, RA, SA⟩ := x
  show kDrop (cReach T n s (p, f, w0, a, b, c, D, Q, K, RA, SA)) = kDrop (cReach T n s (p, f, w0, a, b, c, rZ, rZ, rZ, RA, SA))
  unfold cReach
  by_cases h : (12 : Int) ≤ a
  · simp only [if_pos h]; rfl
  · simp only [if_neg h]; rfl
theorem kDrop_right {T : RwF} {n s : Int} {x : CSt} : kDrop (cRight T n s x) = kRight T n s (kDrop x) := by
  obtain ⟨p, f, w0, a, b, c, D, Q, K, RA, SA⟩ := x
  show kDrop (cRight T n s (p, f, w0, a, b, c, D, Q, K, RA, SA)) = kDrop (cRight T n s (p, f, w0, a, b, c, rZ, rZ, rZ, RA, SA))
  unfold cRight
  by_cases h : (14 : Int) ≤ b
  · simp only [if_pos h]; rfl
  · simp only [if_neg h]; rfl
theorem kDrop_store {T : RwF} {n s : Int} {x : CSt} : kDrop (cStore T n s x) = kStore T n s (kDrop x) := by
  obtain ⟨p, f, w0, a, b, c, D, Q, K, RA, SA⟩ := x
  show kDrop (cStore T n s (p, f, w0, a, b, c, D, Q, K, RA, SA)) = kDrop (cStore T n s (p, f, w0, a, b, c, rZ, rZ, rZ, RA, SA))
  unfold cStore
  by_cases h : (4 : Int) ≤ c
  · simp only [if_pos h]; rfl
  · simp only [if_neg h]; rfl
theorem kDrop_wet {T : RwF} {n s : Int} {x : CSt} : kDrop (cWet T n s x) = kWet T n s (kDrop x) := by
  obtain ⟨p, f, w0, a, b, c, D, Q, K, RA, SA⟩ := x
  show kDrop (cWet T n s (p, f, w0, a, b, c, D, Q, K, RA, SA)) = kDrop (cWet T n s (p, f, w0, a, b, c, rZ, rZ, rZ, RA, SA))
  unfold cWet
  by_cases h : w0 ≠ 0
  · simp only [if_pos h]; rfl
  · simp only [if_neg h]; rfl
/-- a PART, by which word it begins -/
theorem cPart_eq {T : RwF} {n p f : Int} {r : _} : cPart T n (p, f, r) =
  if cIs T n (rsk T n p) f wReach then cReach T n (rsk T n p) (cIp T n (rsk T n p) f wReach, f, r)
  else if cIs T n (rsk T n p) f wRight then cRight T n (rsk T n p) (cIp T n (rsk T n p) f wRight, f, r)
  else if cIs T n (rsk T n p) f wStore then cStore T n (rsk T n p) (cIp T n (rsk T n p) f wStore, f, r)
  else if cIs T n (rsk T n p) f wWet then cWet T n (rsk T n p) (cIp T n (rsk T n p) f wWet, f, r)
  else (rsk T n p, cBl f (rsk T n p) 1, r) := rfl
theorem kPart_eq {T : RwF} {n p f : Int} {r : _} : kPart T n (p, f, r) =
  if cIs T n (rsk T n p) f wReach then kReach T n (rsk T n p) (cIp T n (rsk T n p) f wReach, f, r)
  else if cIs T n (rsk T n p) f wRight then kRight T n (rsk T n p) (cIp T n (rsk T n p) f wRight, f, r)
  else if cIs T n (rsk T n p) f wStore then kStore T n (rsk T n p) (cIp T n (rsk T n p) f wStore, f, r)
  else if cIs T n (rsk T n p) f wWet then kWet T n (rsk T n p) (cIp T n (rsk T n p) f wWet, f, r)
  else (rsk T n p, cBl f (rsk T n p) 1, r) := by
  obtain ⟨w0, a, b, c, RA, SA⟩ := r
  show kDrop (cPart T n (p, f, w0, a, b, c, rZ, rZ, rZ, RA, SA)) = _
  rw [cPart_eq]
  by_cases h1 : cIs T n (rsk T n p) f wReach = true
  · rw [if_pos h1, if_pos h1, kDrop_reach]; rfl
  rw [if_neg h1, if_neg h1]
  by_cases h2 : cIs T n (rsk T n p) f wRight = true
  · rw [if_pos h2, if_pos h2, kDrop_right]; rfl
  rw [if_neg h2, if_neg h2]
  by_cases h3 : cIs T n (rsk T n p) f wStore = true
  · rw [if_pos h3, if_pos h3, kDrop_store]; rfl
  rw [if_neg h3, if_neg h3]
  by_cases h4 : cIs T n (rsk T n p) f wWet = true
  · rw [if_pos h4, if_pos h4, kDrop_wet]; rfl
  rw [if_neg h4, if_neg h4]
  rfl
theorem kDrop_part {T : RwF} {n : Int} {x : CSt} : kDrop (cPart T n x) = kPart T n (kDrop x) := by
  obtain ⟨p, f, w0, a, b, c, D, Q, K, RA, SA⟩ := x
  show _ = kPart T n (p, f, w0, a, b, c, RA, SA)
  rw [cPart_eq, kPart_eq]
  by_cases h1 : cIs T n (rsk T n p) f wReach = true
  · rw [if_pos h1, if_pos h1, kDrop_reach]; rfl
  rw [if_neg h1, if_neg h1]
  by_cases h2 : cIs T n (rsk T n p) f wRight = true
  · rw [if_pos h2, if_pos h2, kDrop_right]; rfl
  rw [if_neg h2, if_neg h2]
  by_cases h3 : cIs T n (rsk T n p) f wStore = true
  · rw [if_pos h3, if_pos h3, kDrop_store]; rfl
  rw [if_neg h3, if_neg h3]
  by_cases h4 : cIs T n (rsk T n p) f wWet = true
  · rw [if_pos h4, if_pos h4, kDrop_wet]; rfl
  rw [if_neg h4, if_neg h4]
  rfl
theorem kDrop_bet {T : RwF} {n : Int} {x : CSt} : (cBet T n x).1 = decide (jBv T n x.1 x.2.1 = 1) ∧ kDrop (cBet T n x).2 = (jBp T n x.1 x.2.1, jBf T n x.1 x.2.1, (kDrop x).2.2) := by
  obtain ⟨p, f, w0, a, b, c, D, Q, K, RA, SA⟩ := x
  unfold cBet jBv jBp jBf kDrop
  simp only
  split
  · exact ⟨by simp, rfl⟩
  · split
    · exact ⟨by simp, rfl⟩
    · exact ⟨by simp, rfl⟩
theorem kDrop_all {T : RwF} {n : Int} : ∀ (k : Nat) {x : CSt}, kDrop (cAll T n k x) = kAll T n k (kDrop x)
  | 0, x => rfl
  | k + 1, x => by
    rw [cAll, kAll]
    obtain ⟨h1, h2⟩ := kDrop_bet (T := T) (n := n) (x := cPart T n x)
    have e1 : (cPart T n x).1 = (kPart T n (kDrop x)).1 := by rw [← kDrop_part]; rfl
    have e2 : (cPart T n x).2.1 = (kPart T n (kDrop x)).2.1 := by rw [← kDrop_part]; rfl
    rw [h1]
    rw [e1, e2, kDrop_part] at h2
    by_cases hv : jBv T n (kPart T n (kDrop x)).1 (kPart T n (kDrop x)).2.1 = 1
    · have hv' : decide (jBv T n (cPart T n x).1 (cPart T n x).2.1 = 1) = true := by rw [e1, e2]; simpa using hv
      rw [if_pos hv', if_pos hv, kDrop_all k, h2]
    · have hv' : ¬ decide (jBv T n (cPart T n x).1 (cPart T n x).2.1 = 1) = true := by rw [e1, e2]; simpa using hv
      rw [if_neg hv', if_neg hv, h2]
/-- the whole reading, from any rows of ages -/
def kRun (T : RwF) (n : Int) (R0 S0 : RwF) : CRd := if rsk T n 0 < n then kAll T n 401 (rsk T n 0, 0, 0, 0, 0, 0, R0, S0) else (rsk T n 0, 0, 0, 0, 0, 0, R0, S0)
def kTell (T : RwF) (n : Int) (R0 S0 : RwF) : Int := if (kRun T n R0 S0).2.1 ≠ 0 then -2 - (kRun T n R0 S0).2.1 else (kRun T n R0 S0).2.2.2.2.1
/-! what the rows of the class's reader need, a lemma a way through -/
theorem bTof {X : RwF} {i v : Int32} {p : Int} (e : v = X i.toNatClampNeg) (h : i.toInt = p) : v.toInt = bT X p := by
  subst h; subst e; rfl
theorem skip_step {T : RwF} {n g g' q : Int} (h : rsk T n g = q) (e : g' = g + 1) (h1 : g < n) (h2 : bT T g = 32) : rsk T n g' = q := by
  subst e; rw [← rsk_step h1 h2]; exact h
theorem skip_end {T : RwF} {n g q : Int} (h : rsk T n g = q) (hs : ¬ (g < n ∧ bT T g = 32)) : g = q := by
  rw [← h]; exact (rsk_stop hs).symm
theorem kBl_of {f f2 q k : Int} (h : (f = 0 ∧ f2 = 8 * q + k) ∨ (f ≠ 0 ∧ f2 = f)) : f2 = jBl f q k := by
  unfold jBl cBl; split <;> omega
theorem num_sd {T : RwF} {n g g' E : Int} (h : rde T n g = E) (e : g' = g + 1) (h1 : g < n) (h2 : 48 ≤ bT T g) (h3 : bT T g ≤ 57) : rde T n g' = E := by
  subst e; rw [← rde_step ⟨h1, h2, h3⟩]; exact h
theorem num_sv {T : RwF} {n g g' a a' C : Int} (h : rcv T n g a = C) (e : g' = g + 1) (h1 : g < n) (h2 : 48 ≤ bT T g) (h3 : bT T g ≤ 57) (ea : a' = min (a * 10 + bT T g - 48) 1000000) : rcv T n g' a' = C := by
  subst e; subst ea; rw [← rcv_step ⟨h1, h2, h3⟩]; exact h
theorem num_p {T : RwF} {n p q g : Int} (hq : q = rsk T n p) (h : rde T n g = rde T n q) (hs : ¬ (g < n ∧ 48 ≤ bT T g ∧ bT T g ≤ 57)) : g = jNp T n p := by
  subst hq; unfold jNp cNp; rw [← h]; exact (rde_stop hs).symm
theorem num_1 {T : RwF} {n p q g f f2 lo hi v : Int} (hq : q = rsk T n p) (hg : g = jNp T n p) (e : g = q) (hf : f2 = jBl f q 1) (hv : v = lo) : f2 = jNf T n p f lo hi ∧ v = jNv T n p lo hi := by
  subst hq
  have e' : cNp T n p = rsk T n p := by rw [← e]; exact hg.symm
  unfold jNf jNv cNf cNv
  rw [if_pos e', if_pos e']
  exact ⟨hf, hv⟩
theorem num_2 {T : RwF} {n p q g f f2 lo hi v a : Int} (hq : q = rsk T n p) (hg : g = jNp T n p) (hs : ¬ (g < n ∧ 48 ≤ bT T g ∧ bT T g ≤ 57)) (hc : rcv T n g a = rcv T n q 0) (e : g ≠ q) (hb : a < lo ∨ hi < a) (hf : f2 = jBl f q 2) (hv : v = lo) : f2 = jNf T n p f lo hi ∧ v = jNv T n p lo hi := by
  subst hq
  have e' : ¬ cNp T n p = rsk T n p := fun h => e (hg.trans h)
  have hc' : rcv T n (rsk T n p) 0 = a := by rw [← hc]; exact rcv_stop hs
  unfold jNf jNv cNf cNv
  rw [if_neg e', if_neg e', hc', if_pos hb, if_pos hb]
  exact ⟨hf, hv⟩
theorem num_3 {T : RwF} {n p q g f lo hi v a : Int} (hq : q = rsk T n p) (hg : g = jNp T n p) (hs : ¬ (g < n ∧ 48 ≤ bT T g ∧ bT T g ≤ 57)) (hc : rcv T n g a = rcv T n q 0) (e : g ≠ q) (hb : ¬ (a < lo ∨ hi < a)) (hv : v = a) : f = jNf T n p f lo hi ∧ v = jNv T n p lo hi := by
  subst hq
  have e' : ¬ cNp T n p = rsk T n p := fun h => e (hg.trans h)
  have hc' : rcv T n (rsk T n p) 0 = a := by rw [← hc]; exact rcv_stop hs
  unfold jNf jNv cNf cNv
  rw [if_neg e', if_neg e', hc', if_neg hb, if_neg hb]
  exact ⟨rfl, hv⟩
/-- the first i letters stand there -/
def kM (T : RwF) (w : List Int) (g i : Int) : Prop := ∀ j : Nat, (j : Int) < i → bT T (g + j) = w.getD j 0
theorem kM0 {T : RwF} {w : List Int} {g i : Int} (h : i = 0) : kM T w g i := fun j hj => by omega
theorem kM_step {T : RwF} {w : List Int} {g i i' : Int} (h : kM T w g i) (h0 : 0 ≤ i) (e : i' = i + 1) (hb : bT T (g + i) = w.getD i.toNat 0) : kM T w g i' := fun j hj => by
  by_cases hji : (j : Int) = i
  · rw [hji, hb, ← hji]; rfl
  · exact h j (by omega)
theorem rwm_iff {T : RwF} : ∀ {w : List Int} {p : Int}, rwm T w p = true ↔ ∀ j : Nat, j < w.length → bT T (p + j) = w.getD j 0
  | [], p => by simp [rwm]
  | c :: w, p => by
    rw [rwm, Bool.and_eq_true, decide_eq_true_eq, rwm_iff (w := w)]
    constructor
    · intro ⟨h1, h2⟩ j hj
      cases j with
      | zero => simpa using h1
      | succ j =>
        have := h2 j (by simpa using hj)
        rw [show p + ((j + 1 : Nat) : Int) = p + 1 + (j : Int) by omega]
        simpa using this
    · intro h
      refine ⟨by simpa using h 0 (by simp), fun j hj => ?_⟩
      have := h (j + 1) (by simpa using hj)
      rw [show p + ((j + 1 : Nat) : Int) = p + 1 + (j : Int) by omega] at this
      simpa using this
theorem is_0 {T : RwF} {n p f g v : Int} {w : List Int} (hg : g = rsk T n p) (h : rwd T n g w = false ∨ f ≠ 0) (hv : v = 0) : g = jIp T n p f w ∧ v = jIs T n p f w := by
  subst hg
  have e : cIs T n p f w = false := by
    unfold cIs
    rcases h with h | h
    · rw [h]; simp
    · simp [h]
  unfold jIp jIs cIp
  rw [e]
  exact ⟨rfl, hv⟩
theorem is_a {T : RwF} {n p f g v : Int} {w : List Int} {m : Nat} (hw : w.length = m) (hg : g = rsk T n p) (h : f ≠ 0 ∨ n < g + m) (hv : v = 0) : g = jIp T n p f w ∧ v = jIs T n p f w := by
  refine is_0 hg ?_ hv
  rcases h with h | h
  · exact Or.inr h
  · left; unfold rwd; rw [hw, decide_eq_false (by omega)]; simp
theorem is_b {T : RwF} {n p f g i v : Int} {w : List Int} {m : Nat} (hw : w.length = m) (hg : g = rsk T n p) (h0 : 0 ≤ i) (hi : i < m) (hb : bT T (g + i) ≠ w.getD i.toNat 0) (hv : v = 0) : g = jIp T n p f w ∧ v = jIs T n p f w := by
  refine is_0 hg (Or.inl ?_) hv
  have : rwm T w g = false := by
    cases hr : rwm T w g with
    | false => rfl
    | true =>
      have := (rwm_iff.mp hr) i.toNat (by omega)
      rw [show g + (i.toNat : Int) = g + i by omega] at this
      exact absurd this hb
  unfold rwd
  rw [this]; simp
theorem is_c {T : RwF} {n p f g v : Int} {w : List Int} {m : Nat} (hw : w.length = m) (hg : g = rsk T n p) (h : g + m < n ∧ 97 ≤ bT T (g + m) ∧ bT T (g + m) ≤ 122) (hv : v = 0) : g = jIp T n p f w ∧ v = jIs T n p f w := by
  refine is_0 hg (Or.inl ?_) hv
  unfold rwd
  rw [hw, decide_eq_true h.1, decide_eq_true h.2.1, decide_eq_true h.2.2]; simp
theorem is_d {T : RwF} {n p f g i v g2 : Int} {w : List Int} {m : Nat} (hw : w.length = m) (hg : g = rsk T n p) (hf : f = 0) (hn : g + m ≤ n) (hm : kM T w g i) (hi : (m : Int) ≤ i) (h : ¬ (g + m < n ∧ 97 ≤ bT T (g + m) ∧ bT T (g + m) ≤ 122)) (hv : v = 1) (h2 : g2 = g + m) : g2 = jIp T n p f w ∧ v = jIs T n p f w := by
  subst hg
  have e : cIs T n p f w = true := by
    unfold cIs rwd
    rw [hw, rwm_iff.mpr (fun j hj => hm j (by omega)), decide_eq_true hf, decide_eq_true hn]
    simp only [Bool.true_and, Bool.and_true]
    rw [← Bool.not_eq_false', Bool.not_not]
    by_cases q1 : rsk T n p + m < n
    · by_cases q2 : 97 ≤ bT T (rsk T n p + m)
      · rw [decide_eq_false (fun q3 => h ⟨q1, q2, q3⟩)]; simp
      · rw [decide_eq_false q2]; simp
    · rw [decide_eq_false q1]; simp
  unfold jIp jIs cIp
  rw [e, hw]
  exact ⟨h2, hv⟩
theorem has_0 {F : RwF} {v i : Int} (h : i = 0) : rhas F v i.toNat = false := by subst h; rfl
theorem has_step {F : RwF} {v i i' : Int} {j z : Int32} (h : rhas F v i.toNat = false) (h0 : 0 ≤ i) (e : i' = i + 1) (hj : j.toInt = i) (hz : z = F j.toNatClampNeg) (hne : z.toInt ≠ v) : rhas F v i'.toNat = false := by
  subst e; subst hz
  rw [show (i + 1).toNat = i.toNat + 1 by omega, rhas, h]
  subst hj
  simpa using hne
theorem has_at {F : RwF} {v i m : Int} {j z : Int32} (h0 : 0 ≤ i) (hm : i < m) (hj : j.toInt = i) (hz : z = F j.toNatClampNeg) (hne : z.toInt = v) : rhas F v m.toNat = true := by
  subst hz; subst hj
  have key : ∀ k : Nat, j.toInt.toNat < k → rhas F v k = true := by
    intro k
    induction k with
    | zero => intro h; omega
    | succ k ih =>
      intro h
      rw [rhas]
      by_cases e : k = j.toInt.toNat
      · have : (F k).toInt = v := by rw [e]; exact hne
        rw [decide_eq_true this]; simp
      · rw [ih (by omega)]; simp
  exact key _ (by omega)
theorem has_y1 {RA SA : RwF} {b c v z : Int} (h : rhas RA v b.toNat = true) (hz : z = 1) : z = jHas RA SA b c v := by unfold jHas; rw [h]; exact hz
theorem has_y2 {RA SA : RwF} {b c v z : Int} (h : rhas SA v c.toNat = true) (hz : z = 1) : z = jHas RA SA b c v := by unfold jHas; rw [h, Bool.or_true]; exact hz
theorem has_n {RA SA : RwF} {b c v z i j : Int} (h : rhas RA v i.toNat = false) (hi : i = b) (h2 : rhas SA v j.toNat = false) (hj : j = c) (hz : z = 0) : z = jHas RA SA b c v := by subst hi; subst hj; unfold jHas; rw [h, h2]; exact hz
theorem cNp_rsk {T : RwF} {n p : Int} : cNp T n (rsk T n p) = cNp T n p := by unfold cNp; rw [rsk_rsk]
theorem cNf_rsk {T : RwF} {n p f lo hi : Int} : cNf T n (rsk T n p) f lo hi = cNf T n p f lo hi := by unfold cNf cNp; rw [rsk_rsk]
theorem cNv_rsk {T : RwF} {n p lo hi : Int} : cNv T n (rsk T n p) lo hi = cNv T n p lo hi := by unfold cNv cNp; rw [rsk_rsk]
theorem kIs1 {T : RwF} {n p f i : Int} {w : List Int} (h : i = jIs T n p f w) (hi : i ≠ 0) : cIs T n p f w = true := by
  unfold jIs at h
  by_cases e : cIs T n p f w = true
  · exact e
  · rw [if_neg e] at h; omega
theorem kIs0 {T : RwF} {n p f i : Int} {w : List Int} (h : i = jIs T n p f w) (hi : i = 0) : cIs T n p f w = false := by
  unfold jIs at h
  by_cases e : cIs T n p f w = true
  · rw [if_pos e] at h; omega
  · simpa using e
theorem age_k {T : RwF} {n b c p f is p1 f1 q g3 f3 v hs f4 : Int} {RA SA : RwF} (hi : is = jIs T n p f wAge) (hp1 : p1 = jIp T n p f wAge) (hq : q = rsk T n p1) (h3 : g3 = jNp T n q) (h4 : f3 = jNf T n q f1 0 9999) (hv : v = jNv T n q 0 9999) (hh : hs = jHas RA SA b c v) (hf1 : (is ≠ 0 ∧ f1 = f) ∨ (is = 0 ∧ f1 = jBl f p1 1)) (h5 : (hs ≠ 0 ∧ f4 = jBl f3 q 2) ∨ (hs = 0 ∧ f4 = f3)) : g3 = jAp T n b c RA SA p f ∧ f4 = jAf T n b c RA SA p f ∧ v = jAv T n b c RA SA p f := by
  have hp1' : p1 = cIp T n p f wAge := hp1
  subst hq
  unfold jNp at h3; unfold jNf at h4; unfold jNv at hv
  rw [cNp_rsk] at h3; rw [cNf_rsk] at h4; rw [cNv_rsk] at hv
  have e1 : (if cIs T n p f wAge then f else cBl f p1 1) = f1 := by
    rcases hf1 with ⟨h, e⟩ | ⟨h, e⟩
    · rw [if_pos (kIs1 hi h)]; exact e.symm
    · rw [if_neg (by rw [kIs0 hi h]; simp)]; exact e.symm
  unfold jAp jAf jAv cAge cNum
  simp only [← hp1', e1, ← h3, ← h4, ← hv]
  refine ⟨trivial, ?_, trivial⟩
  unfold jHas at hh
  rcases h5 with ⟨h, e⟩ | ⟨h, e⟩
  · split at hh
    · rename_i hx; rw [if_pos hx]; exact e
    · omega
  · split at hh
    · omega
    · rename_i hx; rw [if_neg hx]; exact e
theorem wet_a {T : RwF} {n st p f w a b c f2 : Int} {RA SA : RwF} (hw : w ≠ 0) (hf : f2 = jBl f st 3) : (p, f2, w, a, b, c, RA, SA) = kWet T n st (p, f, w, a, b, c, RA, SA) := by
  unfold kWet cWet kLift
  simp only [if_pos hw]
  rw [hf]; rfl
theorem wet_b {T : RwF} {n st p f w a b c f2 g : Int} {RA SA : RwF} (hw : w = 0) (h1 : g = jNp T n p) (h2 : f2 = jNf T n p f 0 400) : (g, f2, 1, a, b, c, RA, SA) = kWet T n st (p, f, w, a, b, c, RA, SA) := by
  unfold kWet cWet kLift
  simp only [if_neg (show ¬ w ≠ 0 by omega)]
  rw [h1, h2]; rfl
theorem updR {F N : RwF} {i x : Int32} {k v : Int} (hN : N = fun j => if j = i.toNatClampNeg then x else F j) (hi : i.toInt = k) (hx : x.toInt = v) : N = rup F k v := by
  subst hN; subst hi; subst hx
  funext j
  unfold rup
  rw [show Int32.ofInt x.toInt = x from Int32.ofInt_toInt x]
  rfl
theorem store_a {T : RwF} {n st p f w a b c f2 : Int} {RA SA : RwF} (hc : 4 ≤ c) (hf : f2 = jBl f st 3) : (p, f2, w, a, b, c, RA, SA) = kStore T n st (p, f, w, a, b, c, RA, SA) := by
  unfold kStore cStore kLift
  simp only [if_pos hc]
  rw [hf]; rfl
theorem store_b {T : RwF} {n st p f w a b c g1 f1 g2 f2 g3 f3 g4 f4 v4 c2 : Int} {RA SA N : RwF} (h1 : g1 = jNp T n p) (h2 : f1 = jNf T n p f 0 (a - 1)) (h3 : g2 = jNp T n g1) (h4 : f2 = jNf T n g1 f1 1 999999) (h5 : g3 = jNp T n g2) (h6 : f3 = jNf T n g2 f2 1 9999) (h7 : g4 = jAp T n b c RA SA g3 f3) (h8 : f4 = jAf T n b c RA SA g3 f3) (h9 : v4 = jAv T n b c RA SA g3 f3) (hN : N = rup SA c v4) (hc : ¬ 4 ≤ c) (e : c2 = c + 1) : (g4, f4, w, a, b, c2, RA, N) = kStore T n st (p, f, w, a, b, c, RA, SA) := by
  unfold kStore cStore kLift
  simp only [if_neg hc]
  unfold jNp at h1 h3 h5; unfold jNf at h2 h4 h6; unfold jAp at h7; unfold jAf at h8; unfold jAv at h9
  simp only [cNum, kDrop, ← h1, ← h2, ← h3, ← h4, ← h5, ← h6, ← h7, ← h8, ← h9, ← hN, ← e]
def kQ (T : RwF) (n : Int) : Nat → Int × Int → Int × Int
  | 0, x => x
  | k + 1, x => let y := kQ T n k x; (cNp T n y.1, cNf T n y.1 y.2 0 9999)
def jQp (T : RwF) (n p f i : Int) : Int := (kQ T n i.toNat (p, f)).1
def jQf (T : RwF) (n p f i : Int) : Int := (kQ T n i.toNat (p, f)).2
theorem kQ0 {T : RwF} {n p f i : Int} (hi : i = 0) : p = jQp T n p f i ∧ f = jQf T n p f i := by subst hi; exact ⟨rfl, rfl⟩
theorem kQ_step {T : RwF} {n p f i i' g h g' h' : Int} (h1 : g = jQp T n p f i) (h2 : h = jQf T n p f i) (h0 : 0 ≤ i) (e : i' = i + 1) (h3 : g' = jNp T n g) (h4 : h' = jNf T n g h 0 9999) : g' = jQp T n p f i' ∧ h' = jQf T n p f i' := by
  subst e
  unfold jQp at h1 ⊢; unfold jQf at h2 ⊢
  rw [show (i + 1).toNat = i.toNat + 1 by omega, kQ]
  simp only [← h1, ← h2]
  exact ⟨h3, h4⟩
theorem reach_a {T : RwF} {n st p f w a b c f2 : Int} {RA SA : RwF} (hc : 12 ≤ a) (hf : f2 = jBl f st 3) : (p, f2, w, a, b, c, RA, SA) = kReach T n st (p, f, w, a, b, c, RA, SA) := by
  unfold kReach cReach kLift
  simp only [if_pos hc]
  rw [hf]; rfl
theorem reach_b {T : RwF} {n st p f w a b c im g1 g2 f2 i g3 f3 is g4 g5 f5 a2 : Int} {RA SA : RwF} (h0 : im = jIs T n p f wMouth) (h1 : g1 = jIp T n p f wMouth) (h3 : g3 = jQp T n g2 f2 i) (h4 : f3 = jQf T n g2 f2 i) (h5 : is = jIs T n g3 f3 wSink) (h6 : g4 = jIp T n g3 f3 wSink)
    (ha : ¬ 12 ≤ a) (hi : i = 4) (hm : (im ≠ 0 ∧ g2 = g1 ∧ f2 = f) ∨ (im = 0 ∧ g2 = jNp T n g1 ∧ f2 = jNf T n g1 f 0 (a - 1))) (hs : (is ≠ 0 ∧ g5 = jNp T n g4 ∧ f5 = jNf T n g4 f3 0 9999) ∨ (is = 0 ∧ g5 = g4 ∧ f5 = f3)) (e : a2 = a + 1) : (g5, f5, w, a2, b, c, RA, SA) = kReach T n st (p, f, w, a, b, c, RA, SA) := by
  unfold kReach cReach kLift
  simp only [if_neg ha]
  unfold jIp at h1 h6
  subst hi
  have e0 : ∃ d, (if cIs T n p f wMouth = true then (cIp T n p f wMouth, f, (-2 : Int)) else cNum T n 0 (a - 1) (cIp T n p f wMouth, f)) = (g2, f2, d) := by
    rcases hm with ⟨q1, q2, q3⟩ | ⟨q1, q2, q3⟩
    · rw [if_pos (kIs1 h0 q1), ← h1, q2, q3]; exact ⟨_, rfl⟩
    · rw [if_neg (by rw [kIs0 h0 q1]; simp), ← h1, q2, q3]; exact ⟨_, rfl⟩
  obtain ⟨d, e0⟩ := e0
  rw [e0]
  have e3 : g3 = cNp T n (cNp T n (cNp T n (cNp T n g2))) := h3
  have e4 : f3 = cNf T n (cNp T n (cNp T n (cNp T n g2))) (cNf T n (cNp T n (cNp T n g2)) (cNf T n (cNp T n g2) (cNf T n g2 f2 0 9999) 0 9999) 0 9999) 0 9999 := h4
  have e5 : ∃ d, cOpt T n 0 9999 0 wSink (g3, f3) = (g5, f5, d) := by
    unfold cOpt
    rcases hs with ⟨q1, q2, q3⟩ | ⟨q1, q2, q3⟩
    · rw [if_pos (kIs1 h5 q1)]; simp only; rw [← h6, q2, q3]; exact ⟨_, rfl⟩
    · rw [if_neg (by simp only; rw [kIs0 h5 q1]; simp)]; simp only; rw [← h6, q2, q3]; exact ⟨_, rfl⟩
  obtain ⟨d5, e5⟩ := e5
  simp only [cNum, ← e3, ← e4, e5, kDrop, ← e]
theorem right_a {T : RwF} {n st p f w a b c f2 : Int} {RA SA : RwF} (hc : 14 ≤ b) (hf : f2 = jBl f st 3) : (p, f2, w, a, b, c, RA, SA) = kRight T n st (p, f, w, a, b, c, RA, SA) := by
  unfold kRight cRight kLift
  simp only [if_pos hc]
  rw [hf]; rfl
theorem right_b {T : RwF} {n st p f w a b c g1 f1 g2 f2 g3 f3 g4 f4 g5 f5 v5 iv g6 g7 f7 ib g8 g9 f9 b2 : Int} {RA SA N : RwF} (h1 : g1 = jNp T n p) (h1f : f1 = jNf T n p f 0 (a - 1)) (h2 : g2 = jNp T n g1) (h2f : f2 = jNf T n g1 f1 1 9999) (h3 : g3 = jNp T n g2) (h3f : f3 = jNf T n g2 f2 0 359) (h4 : g4 = jNp T n g3) (h4f : f4 = jNf T n g3 f3 (jNv T n g2 0 359) 359)
    (h5 : g5 = jAp T n b c RA SA g4 f4) (h5f : f5 = jAf T n b c RA SA g4 f4) (h5v : v5 = jAv T n b c RA SA g4 f4) (hiv : iv = jIs T n g5 f5 wVol) (h6 : g6 = jIp T n g5 f5 wVol) (hib : ib = jIs T n g7 f7 wBack) (h8 : g8 = jIp T n g7 f7 wBack) (hN : N = rup RA b v5)
    (hb : ¬ 14 ≤ b) (hv : (iv ≠ 0 ∧ g7 = jNp T n g6 ∧ f7 = jNf T n g6 f5 1 999999) ∨ (iv = 0 ∧ g7 = g6 ∧ f7 = f5)) (hk : (ib ≠ 0 ∧ g9 = jNp T n (jNp T n (jNp T n g8)) ∧ f9 = jNf T n (jNp T n (jNp T n g8)) (jNf T n (jNp T n g8) (jNf T n g8 f7 0 (a - 1)) 0 100) 1 30) ∨ (ib = 0 ∧ g9 = g8 ∧ f9 = f7)) (e : b2 = b + 1) :
    (g9, f9, w, a, b2, c, N, SA) = kRight T n st (p, f, w, a, b, c, RA, SA) := by
  unfold kRight cRight kLift
  simp only [if_neg hb]
  unfold jIp at h6 h8; unfold jAp at h5; unfold jAf at h5f; unfold jAv at h5v
  unfold jNp at h1 h2 h3 h4; unfold jNf at h1f h2f h3f h4f; unfold jNv at h4f
  have e5 : ∃ d, cOpt T n 1 999999 0 wVol (g5, f5) = (g7, f7, d) := by
    unfold cOpt
    rcases hv with ⟨q1, q2, q3⟩ | ⟨q1, q2, q3⟩
    · rw [if_pos (kIs1 hiv q1)]; simp only; rw [← h6, q2, q3]; exact ⟨_, rfl⟩
    · rw [if_neg (by simp only; rw [kIs0 hiv q1]; simp)]; simp only; rw [← h6, q2, q3]; exact ⟨_, rfl⟩
  obtain ⟨d5, e5⟩ := e5
  simp only [cNum, ← h1, ← h1f, ← h2, ← h2f, ← h3, ← h3f, ← h4, ← h4f, ← h5, ← h5f, ← h5v, e5, ← hN, kDrop, ← e, ← h8]
  rcases hk with ⟨q1, q2, q3⟩ | ⟨q1, q2, q3⟩
  · rw [if_pos (kIs1 hib q1), if_pos (kIs1 hib q1), q2, q3]; rfl
  · rw [if_neg (by rw [kIs0 hib q1]; simp), if_neg (by rw [kIs0 hib q1]; simp), q2, q3]
theorem kIp0 {T : RwF} {n p f i g : Int} {w : List Int} (h : i = jIs T n (rsk T n p) f w) (hi : i = 0) (hg : g = jIp T n (rsk T n p) f w) : g = rsk T n p := by
  unfold jIp cIp at hg
  rw [kIs0 h hi] at hg
  simpa [rsk_rsk] using hg
theorem part_1 {T : RwF} {n p f q i1 p1 : Int} {r : _} {y : CRd} (hq : q = rsk T n p) (h1 : i1 = jIs T n q f wReach) (g1 : p1 = jIp T n q f wReach) (hy : y = kReach T n q (p1, f, r)) (c1 : i1 ≠ 0) : y = kPart T n (p, f, r) := by
  subst hq
  rw [kPart_eq, if_pos (kIs1 h1 c1), hy, g1]; rfl
theorem part_2 {T : RwF} {n p f q i1 p1 i2 p2 : Int} {r : _} {y : CRd} (hq : q = rsk T n p) (h1 : i1 = jIs T n q f wReach) (g1 : p1 = jIp T n q f wReach) (h2 : i2 = jIs T n p1 f wRight) (g2 : p2 = jIp T n p1 f wRight) (hy : y = kRight T n q (p2, f, r)) (c1 : i1 = 0) (c2 : i2 ≠ 0) : y = kPart T n (p, f, r) := by
  subst hq
  have e1 := kIp0 h1 c1 g1
  rw [e1] at h2 g2
  rw [kPart_eq, if_neg (by rw [kIs0 h1 c1]; simp), if_pos (kIs1 h2 c2), hy, g2]; rfl
theorem part_3 {T : RwF} {n p f q i1 p1 i2 p2 i3 p3 : Int} {r : _} {y : CRd} (hq : q = rsk T n p) (h1 : i1 = jIs T n q f wReach) (g1 : p1 = jIp T n q f wReach) (h2 : i2 = jIs T n p1 f wRight) (g2 : p2 = jIp T n p1 f wRight) (h3 : i3 = jIs T n p2 f wStore) (g3 : p3 = jIp T n p2 f wStore) (hy : y = kStore T n q (p3, f, r)) (c1 : i1 = 0) (c2 : i2 = 0) (c3 : i3 ≠ 0) : y = kPart T n (p, f, r) := by
  subst hq
  have e1 := kIp0 h1 c1 g1
  rw [e1] at h2 g2
  have e2 := kIp0 h2 c2 g2
  rw [e2] at h3 g3
  rw [kPart_eq, if_neg (by rw [kIs0 h1 c1]; simp), if_neg (by rw [kIs0 h2 c2]; simp), if_pos (kIs1 h3 c3), hy, g3]; rfl
theorem part_4 {T : RwF} {n p f q i1 p1 i2 p2 i3 p3 i4 p4 : Int} {r : _} {y : CRd} (hq : q = rsk T n p) (h1 : i1 = jIs T n q f wReach) (g1 : p1 = jIp T n q f wReach) (h2 : i2 = jIs T n p1 f wRight) (g2 : p2 = jIp T n p1 f wRight) (h3 : i3 = jIs T n p2 f wStore) (g3 : p3 = jIp T n p2 f wStore) (h4 : i4 = jIs T n p3 f wWet) (g4 : p4 = jIp T n p3 f wWet) (hy : y = kWet T n q (p4, f, r)) (c1 : i1 = 0) (c2 : i2 = 0) (c3 : i3 = 0) (c4 : i4 ≠ 0) : y = kPart T n (p, f, r) := by
  subst hq
  have e1 := kIp0 h1 c1 g1
  rw [e1] at h2 g2
  have e2 := kIp0 h2 c2 g2
  rw [e2] at h3 g3
  have e3 := kIp0 h3 c3 g3
  rw [e3] at h4 g4
  rw [kPart_eq, if_neg (by rw [kIs0 h1 c1]; simp), if_neg (by rw [kIs0 h2 c2]; simp), if_neg (by rw [kIs0 h3 c3]; simp), if_pos (kIs1 h4 c4), hy, g4]; rfl
theorem part_5 {T : RwF} {n p f q i1 p1 i2 p2 i3 p3 i4 p4 f2 : Int} {r : _} (hq : q = rsk T n p) (h1 : i1 = jIs T n q f wReach) (g1 : p1 = jIp T n q f wReach) (h2 : i2 = jIs T n p1 f wRight) (g2 : p2 = jIp T n p1 f wRight) (h3 : i3 = jIs T n p2 f wStore) (g3 : p3 = jIp T n p2 f wStore) (h4 : i4 = jIs T n p3 f wWet) (g4 : p4 = jIp T n p3 f wWet) (hf : f2 = jBl f q 1) (c1 : i1 = 0) (c2 : i2 = 0) (c3 : i3 = 0) (c4 : i4 = 0) : (p4, f2, r) = kPart T n (p, f, r) := by
  subst hq
  have e1 := kIp0 h1 c1 g1
  rw [e1] at h2 g2
  have e2 := kIp0 h2 c2 g2
  rw [e2] at h3 g3
  have e3 := kIp0 h3 c3 g3
  rw [e3] at h4 g4
  have e4 := kIp0 h4 c4 g4
  rw [kPart_eq, if_neg (by rw [kIs0 h1 c1]; simp), if_neg (by rw [kIs0 h2 c2]; simp), if_neg (by rw [kIs0 h3 c3]; simp), if_neg (by rw [kIs0 h4 c4]; simp), e4, hf]; rfl
theorem bet_k {T : RwF} {n p f q p2 f2 v : Int} (hq : q = rsk T n p) (h : ((f ≠ 0 ∨ n ≤ q) ∧ p2 = q ∧ f2 = f ∧ v = 0) ∨ (¬ (f ≠ 0 ∨ n ≤ q) ∧ bT T q ≠ 59 ∧ p2 = q ∧ f2 = jBl f q 1 ∧ v = 0) ∨ (¬ (f ≠ 0 ∨ n ≤ q) ∧ bT T q = 59 ∧ p2 = q + 1 ∧ f2 = f ∧ v = 1)) : p2 = jBp T n p f ∧ f2 = jBf T n p f ∧ v = jBv T n p f := by
  subst hq
  unfold jBp jBf jBv
  rcases h with ⟨h1, h2⟩ | ⟨h1, h2, h3⟩ | ⟨h1, h2, h3⟩
  · rw [if_pos h1, if_pos h1, if_pos h1]; exact h2
  · rw [if_neg h1, if_neg h1, if_neg h1, if_pos h2, if_pos h2, if_pos h2]; exact h3
  · rw [if_neg h1, if_neg h1, if_neg h1, if_neg (by simpa using h2), if_neg (by simpa using h2), if_neg (by simpa using h2)]; exact h3
def kW (T : RwF) (n : Int) (k : Nat) (go : Int) (x : CRd) : CRd := if go = 1 then kAll T n k x else x
theorem run_init {T : RwF} {n g go : Int} {R S : RwF} (hg : g = rsk T n 0) (h : (go = 1 ∧ g < n) ∨ (go = 0 ∧ n ≤ g)) : kW T n 401 go (g, 0, 0, 0, 0, 0, R, S) = kRun T n R S := by
  subst hg
  unfold kW kRun
  rcases h with ⟨h1, h2⟩ | ⟨h1, h2⟩
  · rw [if_pos h1, if_pos h2]
  · rw [if_neg (by omega), if_neg (by omega)]
theorem run_step {T : RwF} {n go p1 f1 g2 f2 v : Int} {k k' : Nat} {x : CRd} {r : _} {K : CRd} (h : kW T n k go x = K) (hy : (p1, f1, r) = kPart T n x) (h2 : g2 = jBp T n p1 f1) (h3 : f2 = jBf T n p1 f1) (h4 : v = jBv T n p1 f1) (hk : k = k' + 1) (hg : go = 1) : kW T n k' v (g2, f2, r) = K := by
  subst hk
  unfold kW at h ⊢
  rw [if_pos hg, kAll, ← hy] at h
  simp only at h
  rw [← h2, ← h3, ← h4] at h
  exact h
theorem run_end {T : RwF} {n go : Int} {k : Nat} {x K : CRd} (h : kW T n k go x = K) (hg : go ≠ 1 ∨ k = 0) : x = K := by
  unfold kW at h
  rcases hg with hg | hg
  · rw [if_neg hg] at h; exact h
  · subst hg
    split at h
    · exact h
    · exact h
theorem has_to {F : RwF} {v i b : Int} (h : rhas F v i.toNat = false) (e : i = b) : rhas F v b.toNat = false := e ▸ h
theorem right_n {T : RwF} {n st p f w a b c g1 f1 g2 f2 g3 f3 g4 f4 g5 f5 v5 iv g6 g7 f7 ib g8 b2 : Int} {RA SA N : RwF} (h1 : g1 = jNp T n p) (h1f : f1 = jNf T n p f 0 (a - 1)) (h2 : g2 = jNp T n g1) (h2f : f2 = jNf T n g1 f1 1 9999) (h3 : g3 = jNp T n g2) (h3f : f3 = jNf T n g2 f2 0 359) (h4 : g4 = jNp T n g3) (h4f : f4 = jNf T n g3 f3 (jNv T n g2 0 359) 359)
    (h5 : g5 = jAp T n b c RA SA g4 f4) (h5f : f5 = jAf T n b c RA SA g4 f4) (h5v : v5 = jAv T n b c RA SA g4 f4) (hiv : iv = jIs T n g5 f5 wVol) (h6 : g6 = jIp T n g5 f5 wVol) (hib : ib = jIs T n g7 f7 wBack) (h8 : g8 = jIp T n g7 f7 wBack) (hN : N = rup RA b v5)
    (hb : ¬ 14 ≤ b) (hv : (iv ≠ 0 ∧ g7 = jNp T n g6 ∧ f7 = jNf T n g6 f5 1 999999) ∨ (iv = 0 ∧ g7 = g6 ∧ f7 = f5)) (hk : ib = 0) (e : b2 = b + 1) :
    (g8, f7, w, a, b2, c, N, SA) = kRight T n st (p, f, w, a, b, c, RA, SA) := right_b h1 h1f h2 h2f h3 h3f h4 h4f h5 h5f h5v hiv h6 hib h8 hN hb hv (Or.inr ⟨hk, rfl, rfl⟩) e
theorem right_y {T : RwF} {n st p f w a b c g1 f1 g2 f2 g3 f3 g4 f4 g5 f5 v5 iv g6 g7 f7 ib g8 g9 f9 g10 f10 g11 f11 b2 : Int} {RA SA N : RwF} (h1 : g1 = jNp T n p) (h1f : f1 = jNf T n p f 0 (a - 1)) (h2 : g2 = jNp T n g1) (h2f : f2 = jNf T n g1 f1 1 9999) (h3 : g3 = jNp T n g2) (h3f : f3 = jNf T n g2 f2 0 359) (h4 : g4 = jNp T n g3) (h4f : f4 = jNf T n g3 f3 (jNv T n g2 0 359) 359)
    (h5 : g5 = jAp T n b c RA SA g4 f4) (h5f : f5 = jAf T n b c RA SA g4 f4) (h5v : v5 = jAv T n b c RA SA g4 f4) (hiv : iv = jIs T n g5 f5 wVol) (h6 : g6 = jIp T n g5 f5 wVol) (hib : ib = jIs T n g7 f7 wBack) (h8 : g8 = jIp T n g7 f7 wBack) (hN : N = rup RA b v5) (h9 : g9 = jNp T n g8) (h9f : f9 = jNf T n g8 f7 0 (a - 1)) (h10 : g10 = jNp T n g9) (h10f : f10 = jNf T n g9 f9 0 100) (h11 : g11 = jNp T n g10) (h11f : f11 = jNf T n g10 f10 1 30)
    (hb : ¬ 14 ≤ b) (hv : (iv ≠ 0 ∧ g7 = jNp T n g6 ∧ f7 = jNf T n g6 f5 1 999999) ∨ (iv = 0 ∧ g7 = g6 ∧ f7 = f5)) (hk : ib ≠ 0) (e : b2 = b + 1) :
    (g11, f11, w, a, b2, c, N, SA) = kRight T n st (p, f, w, a, b, c, RA, SA) := by
  refine right_b h1 h1f h2 h2f h3 h3f h4 h4f h5 h5f h5v hiv h6 hib h8 hN hb hv (Or.inl ⟨hk, ?_, ?_⟩) e
  · rw [h11, h10, h9]
  · rw [h11f, h10f, h9f, h10, h9]
theorem tell_f {T : RwF} {n f v : Int} {R0 S0 : RwF} (h : f = (kRun T n R0 S0).2.1) (hf : f ≠ 0) (hv : v = -2 - f) : v = kTell T n R0 S0 := by
  unfold kTell; rw [← h, if_pos hf]; exact hv
theorem tell_g {T : RwF} {n f b v : Int} {R0 S0 : RwF} (h : f = (kRun T n R0 S0).2.1) (h2 : b = (kRun T n R0 S0).2.2.2.2.1) (hf : f = 0) (hv : v = b) : v = kTell T n R0 S0 := by
  unfold kTell; rw [← h, if_neg (by omega), ← h2]; exact hv
/-! what the rows of the reference's reader need -/
def jWs (T : RwF) (n p : Int) (w : List Int) : Int := if mIs T n p w then 1 else 0
def jWp (T : RwF) (n p : Int) (w : List Int) : Int := mIp T n p w
def jMp (T : RwF) (n p : Int) : Int := if rdg T n (rsk T n p) then rde T n (rsk T n p) else rsk T n p
def jMg (T : RwF) (n p lo hi : Int) : Int := if mNg T n p lo hi then 1 else 0
def jMw (T : RwF) (n p : Int) : Int := mNw T n p
def jMv (T : RwF) (n p : Int) : Int := rmv T n (rsk T n p) 0
/-- an answer (v, the fault, what stands then) is this one -/
def mRes (v wr : Int) (x : MSt) (r : MRs) : Prop := (v = 1 ∧ r.1 = true ∧ r.2.2 = x) ∨ (v = 0 ∧ r.1 = false ∧ r.2.1 = wr)
theorem res_bind {v1 w1 v2 w2 : Int} {x1 x2 : MSt} {r : MRs} {k : MSt → MRs} (h1 : mRes v1 w1 x1 r) (e : v1 = 1) (h2 : mRes v2 w2 x2 (k x1)) : mRes v2 w2 x2 (mb r k) := by
  rcases h1 with ⟨_, g, h⟩ | ⟨g, _⟩
  · rw [mb_t g, h]; exact h2
  · omega
theorem res_fail {v w v' : Int} {x x' : MSt} {r : MRs} {k : MSt → MRs} (h : mRes v w x r) (e : v = 0) (e' : v' = 0) : mRes v' w x' (mb r k) := by
  rcases h with ⟨g, _⟩ | ⟨_, g, h⟩
  · omega
  · rw [mb_f g]; exact Or.inr ⟨e', g, h⟩
theorem isw_0 {T : RwF} {n p g v : Int} {w : List Int} (hg : g = rsk T n p) (h : rwd T n g w = false) (hv : v = 0) : v = jWs T n p w := by
  subst hg; unfold jWs mIs; rw [h]; exact hv
theorem isw_b {T : RwF} {n p g i v : Int} {w : List Int} {m : Nat} (hw : w.length = m) (hg : g = rsk T n p) (h0 : 0 ≤ i) (hi : i < m) (hb : n ≤ g + i ∨ bT T (g + i) ≠ w.getD i.toNat 0) (hv : v = 0) : v = jWs T n p w := by
  refine isw_0 hg ?_ hv
  by_cases hn : g + m ≤ n
  · have : rwm T w g = false := by
      cases hr : rwm T w g with
      | false => rfl
      | true =>
        have := (rwm_iff.mp hr) i.toNat (by omega)
        rw [show g + (i.toNat : Int) = g + i by omega] at this
        rcases hb with hb | hb
        · omega
        · exact absurd this hb
    unfold rwd
    rw [this]; simp
  · unfold rwd; rw [hw, decide_eq_false hn]; simp
theorem isw_c {T : RwF} {n p g v : Int} {w : List Int} {m : Nat} (hw : w.length = m) (hg : g = rsk T n p) (h : g + m < n ∧ 97 ≤ bT T (g + m) ∧ bT T (g + m) ≤ 122) (hv : v = 0) : v = jWs T n p w := by
  refine isw_0 hg ?_ hv
  unfold rwd
  rw [hw, decide_eq_true h.1, decide_eq_true h.2.1, decide_eq_true h.2.2]; simp
theorem isw_d {T : RwF} {n p g i v : Int} {w : List Int} {m : Nat} (hw : w.length = m) (hg : g = rsk T n p) (hm : kM T w g i) (hn : g + m ≤ n) (hi : (m : Int) ≤ i) (h : ¬ (g + m < n ∧ 97 ≤ bT T (g + m) ∧ bT T (g + m) ≤ 122)) (hv : v = 1) : v = jWs T n p w := by
  have hd := is_d (f := 0) (v := 1) (g2 := g + m) hw hg rfl hn hm hi h rfl rfl
  have : cIs T n p 0 w = true := kIs1 hd.2 (by omega)
  rw [cIs0] at this
  unfold jWs; rw [if_pos this]; exact hv
theorem takes_k {T : RwF} {n p g v g2 : Int} {w : List Int} {m : Nat} (hw : w.length = m) (hg : g = rsk T n p) (hv : v = jWs T n p w) (h : (v ≠ 0 ∧ g2 = g + m) ∨ (v = 0 ∧ g2 = g)) : g2 = jWp T n p w := by
  subst hg
  unfold jWs at hv
  unfold jWp mIp
  rw [hw]
  by_cases e : mIs T n p w = true
  · rw [if_pos e] at hv ⊢; omega
  · rw [if_neg e] at hv ⊢; omega
theorem jWs1 {T : RwF} {n p i : Int} {w : List Int} (h : i = jWs T n p w) (hi : i ≠ 0) : mIs T n p w = true := by
  unfold jWs at h
  by_cases e : mIs T n p w = true
  · exact e
  · rw [if_neg e] at h; omega
theorem jWs0 {T : RwF} {n p i : Int} {w : List Int} (h : i = jWs T n p w) (hi : i = 0) : ¬ mIs T n p w = true := by
  unfold jWs at h
  by_cases e : mIs T n p w = true
  · rw [if_pos e] at h; omega
  · exact e
/-- a number of the reference: none there -/
theorem mnum_1 {T : RwF} {n p q lo hi v wr : Int} (hq : q = rsk T n p) (hd : ¬ (q < n ∧ 48 ≤ bT T q ∧ bT T q ≤ 57)) (hv : v = 0) (hw : wr = 8 * q + 1) : q = jMp T n p ∧ v = jMg T n p lo hi ∧ wr = jMw T n p := by
  subst hq
  unfold jMp jMg jMw mNw mNg
  rw [if_neg hd, if_neg (fun h => hd h.1), if_neg hd]
  exact ⟨rfl, hv, hw⟩
theorem mnum_2 {T : RwF} {n p q g a lo hi v wr : Int} (hq : q = rsk T n p) (hc : rmv T n g a = rmv T n q 0) (hr : rde T n g = rde T n q) (hd : q < n ∧ 48 ≤ bT T q ∧ bT T q ≤ 57) (hs : ¬ (g < n ∧ 48 ≤ bT T g ∧ bT T g ≤ 57)) (h : (lo ≤ a ∧ a ≤ hi ∧ v = 1) ∨ (¬ (lo ≤ a ∧ a ≤ hi) ∧ v = 0 ∧ wr = 8 * q + 2)) : g = jMp T n p ∧ v = jMg T n p lo hi ∧ ((v = 1 ∧ a = jMv T n p ∧ q = rsk T n p) ∨ (v = 0 ∧ wr = jMw T n p)) := by
  subst hq
  have ha : rmv T n (rsk T n p) 0 = a := by rw [← hc]; exact rmv_stop hs
  have hg : rde T n (rsk T n p) = g := by rw [← hr]; exact rde_stop hs
  unfold jMp jMg jMw jMv mNw mNg
  rw [if_pos hd, if_pos hd, ha, hg]
  refine ⟨rfl, ?_, ?_⟩
  · rcases h with ⟨h1, h2, h3⟩ | ⟨h1, h2, h3⟩
    · rw [if_pos ⟨hd, h1, h2⟩]; exact h3
    · rw [if_neg (fun k => h1 k.2)]; exact h2
  · rcases h with ⟨h1, h2, h3⟩ | ⟨h1, h2, h3⟩
    · exact Or.inl ⟨h3, rfl, rfl⟩
    · exact Or.inr ⟨h2, h3⟩
theorem mnum_sv {T : RwF} {n g g' a a' C : Int} (h : rmv T n g a = C) (e : g' = g + 1) (h1 : g < n) (h2 : 48 ≤ bT T g) (h3 : bT T g ≤ 57) (ea : (a < 10000000 ∧ a' = 10 * a + bT T g - 48) ∨ (¬ a < 10000000 ∧ a' = a)) : rmv T n g' a' = C := by
  subst e
  rw [rmv_step ⟨h1, h2, h3⟩] at h
  rcases ea with ⟨q, e⟩ | ⟨q, e⟩
  · rw [if_pos q] at h; rw [e]; exact h
  · rw [if_neg q] at h; rw [e]; exact h
theorem to_y {T : RwF} {n p lo hi aq w v g nu wr : Int} {B N : RwF} (hg : v = jMg T n p lo hi) (hp : g = jMp T n p) (hn : nu = jMv T n p) (hN : N = rup B aq nu) (ev : v = 1) : mRes v wr (g, w, N) (mTo T n lo hi aq (p, w, B)) := by
  unfold jMg at hg
  have hx : mNg T n p lo hi := by
    by_cases e : mNg T n p lo hi
    · exact e
    · rw [if_neg e] at hg; omega
  left
  unfold mTo
  simp only [if_pos hx]
  refine ⟨ev, trivial, ?_⟩
  unfold jMp at hp
  rw [if_pos hx.1] at hp
  unfold jMv at hn
  rw [hp, hN, hn]
theorem to_n {T : RwF} {n p lo hi aq w v wr v' : Int} {B : RwF} {x : MSt} (hg : v = jMg T n p lo hi) (hw : wr = jMw T n p) (ev : v = 0) (ev' : v' = 0) : mRes v' wr x (mTo T n lo hi aq (p, w, B)) := by
  unfold jMg at hg
  have hx : ¬ mNg T n p lo hi := fun e => by rw [if_pos e] at hg; omega
  right
  unfold mTo
  simp only [if_neg hx]
  exact ⟨ev', trivial, hw.symm⟩
theorem opt_n {T : RwF} {n lo hi aq p g w wr i v : Int} {u : List Int} {X : RwF} (hj : i = jWs T n p u) (hg : g = jWp T n p u) (e : i = 0) (hv : v = 1) : mRes v wr (g, w, X) (mOpt T n lo hi aq u (p, w, X)) := by
  left; unfold mOpt; simp only [if_neg (jWs0 hj e)]; exact ⟨hv, trivial, by rw [hg]; rfl⟩
theorem opt_y {T : RwF} {n lo hi aq p g w wr i v : Int} {u : List Int} {X : RwF} {x : MSt} (hj : i = jWs T n p u) (hg : g = jWp T n p u) (h : mRes v wr x (mTo T n lo hi aq (g, w, X))) (e : i ≠ 0) : mRes v wr x (mOpt T n lo hi aq u (p, w, X)) := by
  unfold mOpt; simp only [if_pos (jWs1 hj e)]; rw [hg] at h; exact h
/-- ages -/
theorem hasX_step {B : RwF} {o s c : Nat} {v i i' : Int} {j z : Int32} (h : rhas (fun t => B (o + s * t + c)) v i.toNat = false) (hz : z = B j.toNatClampNeg) (h0 : 0 ≤ i) (e : i' = i + 1) (hj : j.toInt = o + s * i + c) (hne : z.toInt ≠ v) : rhas (fun t => B (o + s * t + c)) v i'.toNat = false := by
  subst e; subst hz
  rw [show (i + 1).toNat = i.toNat + 1 by omega, rhas, h]
  have e1 : j.toNatClampNeg = o + s * i.toNat + c := by
    show j.toInt.toNat = _
    rw [hj]
    obtain ⟨k, hk⟩ : ∃ k : Nat, i = (k : Int) := ⟨i.toNat, by omega⟩
    subst hk
    rw [Int.toNat_natCast]
    have : ((o : Int) + s * k + c) = ((o + s * k + c : Nat) : Int) := by push_cast; rfl
    rw [this, Int.toNat_natCast]
  rw [e1] at hne
  simpa using hne
theorem rhas_at {F : RwF} {v : Int} {i m : Nat} (hm : i < m) (h : (F i).toInt = v) : rhas F v m = true := by
  induction m with
  | zero => omega
  | succ k ih =>
    rw [rhas]
    by_cases e : i = k
    · subst e; rw [decide_eq_true h]; simp
    · rw [ih (by omega)]; simp
theorem hasX_at {B : RwF} {o s c : Nat} {v i m : Int} {j z : Int32} (hz : z = B j.toNatClampNeg) (h0 : 0 ≤ i) (hm : i < m) (hj : j.toInt = o + s * i + c) (hne : z.toInt = v) : rhas (fun t => B (o + s * t + c)) v m.toNat = true := by
  subst hz
  obtain ⟨k, hk⟩ : ∃ k : Nat, i = (k : Int) := ⟨i.toNat, by omega⟩
  subst hk
  refine rhas_at (i := k) (by omega) ?_
  have e1 : j.toNatClampNeg = o + s * k + c := by
    show j.toInt.toNat = _
    rw [hj]
    have : ((o : Int) + s * k + c) = ((o + s * k + c : Nat) : Int) := by push_cast; rfl
    rw [this, Int.toNat_natCast]
  rw [e1] at hne
  exact hne
theorem mage_1 {T : RwF} {n aq p g w wr i v : Int} {X : RwF} {x : MSt} (hi : i = jWs T n p wAge) (hg : g = jWp T n p wAge) (e : i = 0) (hw : wr = 8 * g + 1) (hv : v = 0) : mRes v wr x (mAge T n aq (p, w, X)) := by
  right; unfold mAge; simp only [if_neg (jWs0 hi e)]; exact ⟨hv, trivial, by rw [hw, hg]; rfl⟩
theorem mage_2 {T : RwF} {n aq p g w wr i v k : Int} {X : RwF} {x : MSt} (hi : i = jWs T n p wAge) (hg : g = jWp T n p wAge) (hk : k = jMg T n g 0 9999) (hw : wr = jMw T n g) (e : i ≠ 0) (ek : k = 0) (hv : v = 0) : mRes v wr x (mAge T n aq (p, w, X)) := by
  unfold jMg at hk
  have hx : ¬ mNg T n g 0 9999 := fun e => by rw [if_pos e] at hk; omega
  have hg' : g = mIp T n p wAge := hg
  rw [hg'] at hx
  right; unfold mAge; simp only [if_pos (jWs1 hi e), if_neg hx]; exact ⟨hv, trivial, by rw [hw, hg']; rfl⟩
theorem mage_g {T : RwF} {n g k : Int} (hk : k = jMg T n g 0 9999) (ek : k ≠ 0) : mNg T n g 0 9999 := by
  unfold jMg at hk
  by_cases e : mNg T n g 0 9999
  · exact e
  · rw [if_neg e] at hk; omega
theorem mage_3 {T : RwF} {n aq p g w wr i v k nu na : Int} {X : RwF} {x : MSt} (hi : i = jWs T n p wAge) (hg : g = jWp T n p wAge) (hk : k = jMg T n g 0 9999) (hn : nu = jMv T n g) (ha : na = rsk T n g) (hd : rhas (fun t => X (78 + 13 * t + 4)) nu (xI X 1).toNat = true ∨ rhas (fun t => X (260 + 7 * t + 3)) nu (xI X 2).toNat = true) (e : i ≠ 0) (ek : k ≠ 0) (hw : wr = 8 * na + 2) (hv : v = 0) : mRes v wr x (mAge T n aq (p, w, X)) := by
  have hx := mage_g hk ek
  have hg' : g = mIp T n p wAge := hg
  unfold jMv at hn
  rw [hg'] at hx hn ha
  right; unfold mAge; simp only [if_pos (jWs1 hi e), if_pos hx, ← hn]
  have : (rhas (fun t => X (78 + 13 * t + 4)) nu (xI X 1).toNat || rhas (fun t => X (260 + 7 * t + 3)) nu (xI X 2).toNat) = true := by
    rcases hd with h | h
    · rw [h]; rfl
    · rw [h, Bool.or_true]
  rw [if_pos this]
  exact ⟨hv, rfl, by rw [hw, ha]⟩
theorem mage_4 {T : RwF} {n aq p g w wr i v k nu g2 : Int} {X N : RwF} (hi : i = jWs T n p wAge) (hg : g = jWp T n p wAge) (hk : k = jMg T n g 0 9999) (hp : g2 = jMp T n g) (hn : nu = jMv T n g) (h1 : rhas (fun t => X (78 + 13 * t + 4)) nu (xI X 1).toNat = false) (h2 : rhas (fun t => X (260 + 7 * t + 3)) nu (xI X 2).toNat = false) (hN : N = rup X aq nu) (e : i ≠ 0) (ek : k ≠ 0) (hv : v = 1) : mRes v wr (g2, w, N) (mAge T n aq (p, w, X)) := by
  have hx := mage_g hk ek
  have hg' : g = mIp T n p wAge := hg
  unfold jMv at hn
  unfold jMp at hp
  rw [if_pos hx.1] at hp
  rw [hg'] at hx hn hp
  left; unfold mAge; simp only [if_pos (jWs1 hi e), if_pos hx, ← hn, h1, h2, Bool.or_self, Bool.false_eq_true, if_false]
  exact ⟨hv, trivial, by rw [hp, hN]⟩
/-- the flows of a REACH -/
def mQ (T : RwF) (n row : Int) : Nat → MSt → MRs
  | 0, x => (true, 0, x)
  | k + 1, x => mb (mQ T n row k x) (mTo T n 0 9999 (row + 2 + k))
theorem mQ_fail {T : RwF} {n row : Int} {x : MSt} {k : Nat} (h : (mQ T n row k x).1 = false) : ∀ m, k ≤ m → mQ T n row m x = mQ T n row k x := by
  intro m hm
  induction m with
  | zero => have : k = 0 := by omega
            subst this; rfl
  | succ m ih =>
    by_cases e : k = m + 1
    · subst e; rfl
    · rw [mQ, ih (by omega), mb_f h]
def mR0 (T : RwF) (n a : Int) : MSt → MRs := fun (p, w, X) =>
  if mIs T n p wMouth then (true, 0, mIp T n p wMouth, w, X) else mTo T n 0 (a - 1) (6 + 6 * a) (mIp T n p wMouth, w, X)
theorem mb_assoc {r : MRs} {f g : MSt → MRs} : mb (mb r f) g = mb r (fun x => mb (f x) g) := by
  unfold mb
  by_cases h : r.1 = true
  · simp only [if_pos h]
  · simp only [if_neg h]
theorem mReach_eq {T : RwF} {n p w : Int} {X : RwF} (ha : xI X 0 ≠ 12) : mReach T n (p, w, X) = mb (mb (mb (mR0 T n (xI X 0) (p + 5, w, rup X (6 + 6 * xI X 0) (-1))) (mQ T n (6 + 6 * xI X 0) 4)) (mOpt T n 0 9999 (6 + 6 * xI X 0 + 1) wSink)) (fun y => (true, 0, y.1, y.2.1, rup y.2.2 0 (xI X 0 + 1))) := by
  unfold mReach mR0
  simp only [if_neg ha]
  congr 2
  rw [mb_assoc, mb_assoc, mb_assoc]
  congr 1
  funext y
  show _ = mb (mb (mb (mTo T n 0 9999 (6 + 6 * xI X 0 + 2 + ((0 : Nat) : Int)) y) (mTo T n 0 9999 (6 + 6 * xI X 0 + 2 + ((1 : Nat) : Int)))) (mTo T n 0 9999 (6 + 6 * xI X 0 + 2 + ((2 : Nat) : Int)))) (mTo T n 0 9999 (6 + 6 * xI X 0 + 2 + ((3 : Nat) : Int)))
  rw [show 6 + 6 * xI X 0 + 2 + ((0 : Nat) : Int) = 6 + 6 * xI X 0 + 2 by omega, show 6 + 6 * xI X 0 + 2 + ((1 : Nat) : Int) = 6 + 6 * xI X 0 + 3 by omega, show 6 + 6 * xI X 0 + 2 + ((2 : Nat) : Int) = 6 + 6 * xI X 0 + 4 by omega, show 6 + 6 * xI X 0 + 2 + ((3 : Nat) : Int) = 6 + 6 * xI X 0 + 5 by omega]
  rw [mb_assoc, mb_assoc]
theorem r0_y {T : RwF} {n a p w wr i g v : Int} {X : RwF} (hi : i = jWs T n p wMouth) (hg : g = jWp T n p wMouth) (e : i ≠ 0) (hv : v = 1) : mRes v wr (g, w, X) (mR0 T n a (p, w, X)) := by
  left; unfold mR0; simp only [if_pos (jWs1 hi e)]; exact ⟨hv, trivial, by rw [hg]; rfl⟩
theorem r0_n {T : RwF} {n a p w wr i g v : Int} {X : RwF} {x : MSt} (hi : i = jWs T n p wMouth) (hg : g = jWp T n p wMouth) (h : mRes v wr x (mTo T n 0 (a - 1) (6 + 6 * a) (g, w, X))) (e : i = 0) : mRes v wr x (mR0 T n a (p, w, X)) := by
  unfold mR0; simp only [if_neg (jWs0 hi e)]; rw [hg] at h; exact h
theorem rch_a {T : RwF} {n p w wr v : Int} {X : RwF} {x : MSt} (ha : gI X 0 = 12) (hw : wr = 8 * p + 3) (hv : v = 0) : mRes v wr x (mReach T n (p, w, X)) := by
  change xI X 0 = 12 at ha
  right; unfold mReach; simp only [if_pos ha]; exact ⟨hv, trivial, hw.symm⟩
theorem rch_of {T : RwF} {n p w wr v q : Int} {X X1 : RwF} {x : MSt} (ha : gI X 0 ≠ 12) (hq : q = p + 5) (hX : X1 = rup X (6 + 6 * gI X 0) (-1)) (h : mRes v wr x (mb (mb (mb (mR0 T n (gI X 0) (q, w, X1)) (mQ T n (6 + 6 * gI X 0) 4)) (mOpt T n 0 9999 (6 + 6 * gI X 0 + 1) wSink)) (fun y => (true, 0, y.1, y.2.1, rup y.2.2 0 (gI X 0 + 1))))) : mRes v wr x (mReach T n (p, w, X)) := by
  change xI X 0 ≠ 12 at ha
  change X1 = rup X (6 + 6 * xI X 0) (-1) at hX
  rw [mReach_eq ha, ← hq, ← hX]; exact h
theorem mQ_of {T : RwF} {n row wr i : Int} {x y : MSt} (h : mQ T n row i.toNat x = (true, 0, y)) (e : i = 4) : mRes 1 wr y (mQ T n row 4 x) := by
  subst e; exact Or.inl ⟨rfl, by rw [show (4 : Nat) = (4 : Int).toNat from rfl, h], by rw [show (4 : Nat) = (4 : Int).toNat from rfl, h]⟩
theorem mQ_0 {T : RwF} {n row i : Int} {x : MSt} (e : i = 0) : mQ T n row i.toNat x = (true, 0, x) := by subst e; rfl
theorem mTo_w0 {T : RwF} {n lo hi at_ : Int} {y x : MSt} {v wr : Int} (h : mRes v wr x (mTo T n lo hi at_ y)) (e : v = 1) : mTo T n lo hi at_ y = (true, 0, x) := by
  rcases h with ⟨_, g, h⟩ | ⟨g, _⟩
  · exact Prod.ext g (Prod.ext (mTo_w g) h)
  · omega
theorem mQ_step {T : RwF} {n row i i' aq v wr : Int} {x y z : MSt} (h : mQ T n row i.toNat x = (true, 0, y)) (ht : mRes v wr z (mTo T n 0 9999 aq y)) (e : v = 1) (h0 : 0 ≤ i) (ei : i' = i + 1) (ha : aq = row + 2 + i) : mQ T n row i'.toNat x = (true, 0, z) := by
  subst ei
  rw [show (i + 1).toNat = i.toNat + 1 by omega, mQ, h, mb_t rfl]
  rw [show row + 2 + ((i.toNat : Nat) : Int) = aq by omega]
  exact mTo_w0 ht e
theorem mQ_bad {T : RwF} {n row i aq v wr v' : Int} {x y z z' : MSt} (h : mQ T n row i.toNat x = (true, 0, y)) (ht : mRes v wr z (mTo T n 0 9999 aq y)) (e : v = 0) (h0 : 0 ≤ i) (hi : i < 4) (ha : aq = row + 2 + i) (hv : v' = 0) : mRes v' wr z' (mQ T n row 4 x) := by
  have e1 : mQ T n row (i.toNat + 1) x = mTo T n 0 9999 aq y := by
    rw [mQ, h, mb_t rfl]
    rw [show row + 2 + ((i.toNat : Nat) : Int) = aq by omega]
  rcases ht with ⟨g, _⟩ | ⟨_, g, h2⟩
  · omega
  · rw [mQ_fail (k := i.toNat + 1) (by rw [e1]; exact g) 4 (by omega), e1]
    exact Or.inr ⟨hv, g, h2⟩
theorem inc_k {wr v a : Int} {p w : Int} {X N : RwF} {j : Int} (hN : N = rup X j (a + 1)) (hv : v = 1) : mRes v wr (p, w, N) ((fun y : MSt => ((true, 0, y.1, y.2.1, rup y.2.2 j (a + 1)) : MRs)) (p, w, X)) := Or.inl ⟨hv, rfl, by rw [hN]⟩
/-- back -/
theorem back_n {T : RwF} {n row p w wr i g v : Int} {X X1 : RwF} (hX : X1 = rup X (row + 7) (-2)) (hi : i = jWs T n p wBack) (hg : g = jWp T n p wBack) (e : i = 0) (hv : v = 1) : mRes v wr (g, w, X1) (mBack T n row (p, w, X)) := by
  left; unfold mBack; simp only [if_neg (jWs0 hi e)]; exact ⟨hv, trivial, by rw [hg, hX]; rfl⟩
theorem back_y {T : RwF} {n row p w wr i g v a : Int} {X X1 : RwF} {x : MSt} (hX : X1 = rup X (row + 7) (-2)) (hi : i = jWs T n p wBack) (hg : g = jWp T n p wBack) (ha : gI X 0 = a) (h : mRes v wr x (mb (mb (mTo T n 0 (a - 1) (row + 7) (g, w, X1)) (mTo T n 0 100 (row + 8))) (mTo T n 1 30 (row + 9)))) (e : i ≠ 0) : mRes v wr x (mBack T n row (p, w, X)) := by
  change xI X 0 = a at ha
  unfold mBack; simp only [if_pos (jWs1 hi e), ha]; rw [hg, hX] at h; exact h
/-- a RIGHT -/
theorem rgt_a {T : RwF} {n p w wr v : Int} {X : RwF} {x : MSt} (ha : gI X 1 = 14) (hw : wr = 8 * p + 3) (hv : v = 0) : mRes v wr x (mRight T n (p, w, X)) := by
  change xI X 1 = 14 at ha
  right; unfold mRight; simp only [if_pos ha]; exact ⟨hv, trivial, hw.symm⟩
def mFin (row b : Int) : MSt → MRs := fun (p, w, X) =>
  let X1 := rup X (row + 6) (xI X (row + 5).toNat)
  let X2 := rup X1 (row + 10) (xI X1 (row + 1).toNat)
  (true, 0, p, w, rup (rup X2 (row + 11) (-2)) 1 (b + 1))
def mVol (T : RwF) (n row : Int) : MSt → MRs := fun (p, w, X) => mOpt T n 1 999999 (row + 5) wVol (p, w, rup X (row + 5) (-2))
def mTil (T : RwF) (n row : Int) : MSt → MRs := fun (p, w, X) => mTo T n (xI X (row + 2).toNat) 359 (row + 3) (p, w, X)
theorem rgt_of {T : RwF} {n p w wr v q : Int} {X : RwF} {x : MSt} (ha : gI X 1 ≠ 14) (hq : q = p + 5) (h : mRes v wr x (mb (mb (mb (mb (mb (mb (mb (mTo T n 0 (gI X 0 - 1) (78 + 13 * gI X 1) (q, w, X)) (mTo T n 1 9999 (78 + 13 * gI X 1 + 1))) (mTo T n 0 359 (78 + 13 * gI X 1 + 2))) (mTil T n (78 + 13 * gI X 1))) (mAge T n (78 + 13 * gI X 1 + 4))) (mVol T n (78 + 13 * gI X 1))) (mBack T n (78 + 13 * gI X 1))) (mFin (78 + 13 * gI X 1) (gI X 1)))) : mRes v wr x (mRight T n (p, w, X)) := by
  change xI X 1 ≠ 14 at ha
  unfold mRight; simp only [if_neg ha]; rw [hq] at h; exact h
theorem til_k {T : RwF} {n row p w wr v lo : Int} {X : RwF} {x : MSt} (h : mRes v wr x (mTo T n lo 359 (row + 3) (p, w, X))) (hl : lo = gI X (row + 2).toNat) : mRes v wr x (mTil T n row (p, w, X)) := by
  unfold mTil; rw [hl] at h; exact h
theorem vol_n {T : RwF} {n row p w wr i g v : Int} {X X1 : RwF} (hX : X1 = rup X (row + 5) (-2)) (hi : i = jWs T n p wVol) (hg : g = jWp T n p wVol) (e : i = 0) (hv : v = 1) : mRes v wr (g, w, X1) (mVol T n row (p, w, X)) := by
  unfold mVol; simp only; rw [← hX]; exact opt_n hi hg e hv
theorem vol_y {T : RwF} {n row p w wr i g v : Int} {X X1 : RwF} {x : MSt} (hX : X1 = rup X (row + 5) (-2)) (hi : i = jWs T n p wVol) (hg : g = jWp T n p wVol) (h : mRes v wr x (mTo T n 1 999999 (row + 5) (g, w, X1))) (e : i ≠ 0) : mRes v wr x (mVol T n row (p, w, X)) := by
  unfold mVol; simp only; rw [← hX]; exact opt_y hi hg h e
theorem fin_k {row b wr v p w u1 u2 : Int} {X N1 N2 N3 N4 : RwF} (h1 : N1 = rup X (row + 6) u1) (e1 : u1 = gI X (row + 5).toNat) (h2 : N2 = rup N1 (row + 10) u2) (e2 : u2 = gI N1 (row + 1).toNat) (h3 : N3 = rup N2 (row + 11) (-2)) (h4 : N4 = rup N3 1 (b + 1)) (hv : v = 1) : mRes v wr (p, w, N4) (mFin row b (p, w, X)) := by
  change u1 = xI X (row + 5).toNat at e1
  change u2 = xI N1 (row + 1).toNat at e2
  left; unfold mFin; exact ⟨hv, rfl, by simp only; rw [h4, h3, h2, e2, h1, e1]⟩
/-- a STORE -/
theorem sto_a {T : RwF} {n p w wr v : Int} {X : RwF} {x : MSt} (ha : gI X 2 = 4) (hw : wr = 8 * p + 3) (hv : v = 0) : mRes v wr x (mStore T n (p, w, X)) := by
  change xI X 2 = 4 at ha
  right; unfold mStore; simp only [if_pos ha]; exact ⟨hv, trivial, hw.symm⟩
def mFis (row c : Int) : MSt → MRs := fun (p, w, X) => (true, 0, p, w, rup (rup X (row + 5) (-2)) 2 (c + 1))
theorem sto_of {T : RwF} {n p w wr v q : Int} {X : RwF} {x : MSt} (ha : gI X 2 ≠ 4) (hq : q = p + 5) (h : mRes v wr x (mb (mb (mb (mb (mTo T n 0 (gI X 0 - 1) (260 + 7 * gI X 2) (q, w, X)) (mTo T n 1 999999 (260 + 7 * gI X 2 + 1))) (mTo T n 1 9999 (260 + 7 * gI X 2 + 2))) (mAge T n (260 + 7 * gI X 2 + 3))) (mFis (260 + 7 * gI X 2) (gI X 2)))) : mRes v wr x (mStore T n (p, w, X)) := by
  change xI X 2 ≠ 4 at ha
  unfold mStore; simp only [if_neg ha]; rw [hq] at h; exact h
theorem fis_k {row c wr v p w : Int} {X N1 N2 : RwF} (h1 : N1 = rup X (row + 5) (-2)) (h2 : N2 = rup N1 2 (c + 1)) (hv : v = 1) : mRes v wr (p, w, N2) (mFis row c (p, w, X)) := by
  left; unfold mFis; exact ⟨hv, rfl, by simp only; rw [h2, h1]⟩
theorem wet_1 {T : RwF} {n p w wr v : Int} {X : RwF} {x : MSt} (hw0 : w ≠ 0) (hw : wr = 8 * p + 3) (hv : v = 0) : mRes v wr x (mWet T n (p, w, X)) := by
  right; unfold mWet; simp only [if_pos hw0]; exact ⟨hv, trivial, hw.symm⟩
theorem wet_2 {T : RwF} {n p q w wr v : Int} {X : RwF} {x : MSt} (h : mRes v wr x (mTo T n 0 400 4 (q, 1, X))) (hw0 : w = 0) (hq : q = p + 3) : mRes v wr x (mWet T n (p, w, X)) := by
  unfold mWet; simp only [if_neg (show ¬ w ≠ 0 by omega)]; rw [hq] at h; exact h
theorem jWsq {T : RwF} {n p i : Int} {w : List Int} (h : i = jWs T n (rsk T n p) w) : i = if rwd T n (rsk T n p) w then 1 else 0 := by
  unfold jWs mIs at h; rw [rsk_rsk] at h; exact h
theorem mpart_1 {T : RwF} {n p q w wr v i1 : Int} {X : RwF} {x : MSt} (hq : q = rsk T n p) (h1 : i1 = jWs T n p wReach) (h : mRes v wr x (mReach T n (q, w, X))) (c1 : i1 ≠ 0) : mRes v wr x (mPart T n (p, w, X)) := by
  subst hq
  have k1 := jWs1 h1 c1; unfold mIs at k1
  unfold mPart; simp only; rw [if_pos k1]; exact h
theorem mpart_2 {T : RwF} {n p q q2 w wr v i1 i2 : Int} {X : RwF} {x : MSt} (hq : q = rsk T n p) (h1 : i1 = jWs T n p wReach) (hq2 : q2 = rsk T n q) (h2 : i2 = jWs T n q wRight) (h : mRes v wr x (mRight T n (q2, w, X))) (c1 : i1 = 0) (c2 : i2 ≠ 0) : mRes v wr x (mPart T n (p, w, X)) := by
  subst hq; rw [rsk_rsk] at hq2; subst hq2
  have k2 := jWs1 h2 c2; unfold mIs at k2; rw [rsk_rsk] at k2
  have k1 := jWs0 h1 c1; unfold mIs at k1
  unfold mPart; simp only; rw [if_neg k1, if_pos k2]; exact h
theorem mpart_3 {T : RwF} {n p q q2 q3 w wr v i1 i2 i3 : Int} {X : RwF} {x : MSt} (hq : q = rsk T n p) (h1 : i1 = jWs T n p wReach) (hq2 : q2 = rsk T n q) (h2 : i2 = jWs T n q wRight) (hq3 : q3 = rsk T n q2) (h3 : i3 = jWs T n q2 wStore) (h : mRes v wr x (mStore T n (q3, w, X))) (c1 : i1 = 0) (c2 : i2 = 0) (c3 : i3 ≠ 0) : mRes v wr x (mPart T n (p, w, X)) := by
  subst hq; rw [rsk_rsk] at hq2; subst hq2; rw [rsk_rsk] at hq3; subst hq3
  have k2 := jWs0 h2 c2; unfold mIs at k2; rw [rsk_rsk] at k2
  have k3 := jWs1 h3 c3; unfold mIs at k3; rw [rsk_rsk] at k3
  have k1 := jWs0 h1 c1; unfold mIs at k1
  unfold mPart; simp only; rw [if_neg k1, if_neg k2, if_pos k3]; exact h
theorem mpart_4 {T : RwF} {n p q q2 q3 q4 w wr v i1 i2 i3 i4 : Int} {X : RwF} {x : MSt} (hq : q = rsk T n p) (h1 : i1 = jWs T n p wReach) (hq2 : q2 = rsk T n q) (h2 : i2 = jWs T n q wRight) (hq3 : q3 = rsk T n q2) (h3 : i3 = jWs T n q2 wStore) (hq4 : q4 = rsk T n q3) (h4 : i4 = jWs T n q3 wWet) (h : mRes v wr x (mWet T n (q4, w, X))) (c1 : i1 = 0) (c2 : i2 = 0) (c3 : i3 = 0) (c4 : i4 ≠ 0) : mRes v wr x (mPart T n (p, w, X)) := by
  subst hq; rw [rsk_rsk] at hq2; subst hq2; rw [rsk_rsk] at hq3; subst hq3; rw [rsk_rsk] at hq4; subst hq4
  have k2 := jWs0 h2 c2; unfold mIs at k2; rw [rsk_rsk] at k2
  have k3 := jWs0 h3 c3; unfold mIs at k3; rw [rsk_rsk] at k3
  have k4 := jWs1 h4 c4; unfold mIs at k4; rw [rsk_rsk] at k4
  have k1 := jWs0 h1 c1; unfold mIs at k1
  unfold mPart; simp only; rw [if_neg k1, if_neg k2, if_neg k3, if_pos k4]; exact h
theorem mpart_5 {T : RwF} {n p q q2 q3 q4 w wr v i1 i2 i3 i4 : Int} {X : RwF} {x : MSt} (hq : q = rsk T n p) (h1 : i1 = jWs T n p wReach) (hq2 : q2 = rsk T n q) (h2 : i2 = jWs T n q wRight) (hq3 : q3 = rsk T n q2) (h3 : i3 = jWs T n q2 wStore) (hq4 : q4 = rsk T n q3) (h4 : i4 = jWs T n q3 wWet) (c1 : i1 = 0) (c2 : i2 = 0) (c3 : i3 = 0) (c4 : i4 = 0) (hw : wr = 8 * q4 + 1) (hv : v = 0) : mRes v wr x (mPart T n (p, w, X)) := by
  subst hq; rw [rsk_rsk] at hq2; subst hq2; rw [rsk_rsk] at hq3; subst hq3; rw [rsk_rsk] at hq4; subst hq4
  have k2 := jWs0 h2 c2; unfold mIs at k2; rw [rsk_rsk] at k2
  have k3 := jWs0 h3 c3; unfold mIs at k3; rw [rsk_rsk] at k3
  have k4 := jWs0 h4 c4; unfold mIs at k4; rw [rsk_rsk] at k4
  right
  have k1 := jWs0 h1 c1; unfold mIs at k1
  unfold mPart; simp only; rw [if_neg k1, if_neg k2, if_neg k3, if_neg k4]; exact ⟨hv, rfl, hw.symm⟩
/-- behind a PART -/
def mTl (T : RwF) (n : Int) (k : Nat) (r : MRs) : MRs :=
  if r.1 then
    let q := rsk T n r.2.2.1
    if q < n ∧ bT T q = 59 then mAll T n k (q + 1, r.2.2.2) else if q < n then (false, 8 * q + 1, q, r.2.2.2) else (true, 0, q, r.2.2.2)
  else r
theorem mAll_tl {T : RwF} {n : Int} {k : Nat} {x : MSt} : mAll T n (k + 1) x = mTl T n k (mPart T n x) := rfl
def mRun (T : RwF) (n : Int) (X : RwF) : MRs := if rsk T n 0 < n then mAll T n 401 (rsk T n 0, 0, X) else (true, 0, rsk T n 0, 0, X)
def mTell (T : RwF) (n : Int) (X : RwF) : Int := if (mRun T n X).1 then xI (mRun T n X).2.2.2.2 1 else -2 - (mRun T n X).2.1
def mInv (T : RwF) (n good wr : Int) (x : MSt) (X : RwF) : Prop := ∃ (r : MRs) (k : Nat), mRes good wr x r ∧ mTl T n k r = mRun T n X ∧ n - x.1 ≤ k
theorem inv_0 {T : RwF} {n q w wr v : Int} {X : RwF} {x : MSt} (hq : q = rsk T n 0) (h : mRes v wr x (mPart T n (q, w, X))) (hn : q < n) (hw : w = 0) (hx : n - x.1 ≤ 400) : mInv T n v wr x X := by
  subst hq; subst hw
  exact ⟨_, 400, h, by unfold mRun; rw [if_pos hn]; exact mAll_tl.symm, hx⟩
theorem inv_step {T : RwF} {n good wr g w q q1 v wr2 : Int} {B X : RwF} {x : MSt} (h : mInv T n good wr (g, w, B) X) (hq : q = rsk T n g) (hp : mRes v wr2 x (mPart T n (q1, w, B))) (e : good = 1) (hn : q < n) (hb : bT T q = 59) (h1 : q1 = q + 1) (h2 : q1 ≤ x.1) (h3 : g ≤ q) : mInv T n v wr2 x X := by
  obtain ⟨r, k, hr, ht, hk⟩ := h
  rcases hr with ⟨_, g1, g2⟩ | ⟨g1, _⟩
  · obtain ⟨rg, rw_, p0, y0⟩ := r
    simp only at g1 g2
    subst g1
    simp only [Prod.mk.injEq] at g2
    obtain ⟨e1, e2⟩ := g2
    subst hq
    unfold mTl at ht
    simp only [if_true, e1, e2] at ht
    rw [if_pos ⟨hn, hb⟩, ← h1] at ht
    cases k with
    | zero => simp only at hk; omega
    | succ k =>
      refine ⟨_, k, hp, by rw [← mAll_tl]; exact ht, ?_⟩
      simp only at hk
      omega
  · omega
theorem inv_bad {T : RwF} {n good wr v : Int} {x y : MSt} {X : RwF} (h : mInv T n good wr x X) (e : good = 0) (hv : v = 0) : mRes v wr y (mRun T n X) := by
  obtain ⟨r, k, hr, ht, hk⟩ := h
  rcases hr with ⟨g1, _⟩ | ⟨_, g1, g2⟩
  · omega
  · rw [← ht]; unfold mTl; rw [if_neg (by rw [g1]; simp)]
    exact Or.inr ⟨hv, g1, g2⟩
theorem inv_end {T : RwF} {n good wr g w q q2 v wr2 : Int} {B X : RwF} (h : mInv T n good wr (g, w, B) X) (hq : q = rsk T n g) (hq2 : q2 = rsk T n q) (e : good = 1) (hn : n ≤ q2) (hv : v = 1) : mRes v wr2 (q2, w, B) (mRun T n X) := by
  subst hq; rw [rsk_rsk] at hq2; subst hq2
  obtain ⟨r, k, hr, ht, hk⟩ := h
  rcases hr with ⟨_, g1, g2⟩ | ⟨g1, _⟩
  · obtain ⟨rg, rw_, p0, y0⟩ := r
    simp only at g1 g2
    subst g1
    simp only [Prod.mk.injEq] at g2
    obtain ⟨e1, e2⟩ := g2
    rw [← ht]; unfold mTl
    simp only [if_true, e1, e2]
    rw [if_neg (by omega), if_neg (by omega)]
    exact Or.inl ⟨hv, rfl, rfl⟩
  · omega
theorem inv_no {T : RwF} {n good wr g w q q2 v wr2 : Int} {B X : RwF} {x : MSt} (h : mInv T n good wr (g, w, B) X) (hq : q = rsk T n g) (hq2 : q2 = rsk T n q) (e : good = 1) (hn : q < n) (hb : bT T q ≠ 59) (hw : wr2 = 8 * q2 + 1) (hv : v = 0) : mRes v wr2 x (mRun T n X) := by
  subst hq; rw [rsk_rsk] at hq2; subst hq2
  obtain ⟨r, k, hr, ht, hk⟩ := h
  rcases hr with ⟨_, g1, g2⟩ | ⟨g1, _⟩
  · obtain ⟨rg, rw_, p0, y0⟩ := r
    simp only at g1 g2
    subst g1
    simp only [Prod.mk.injEq] at g2
    obtain ⟨e1, e2⟩ := g2
    rw [← ht]; unfold mTl
    simp only [if_true, e1, e2]
    rw [if_neg (fun k => hb k.2), if_pos hn]
    exact Or.inr ⟨hv, rfl, hw.symm⟩
  · omega
theorem run_none {T : RwF} {n q w v wr : Int} {X : RwF} (hq : q = rsk T n 0) (hn : n ≤ q) (hw : w = 0) (hv : v = 1) : mRes v wr (q, w, X) (mRun T n X) := by
  subst hq; subst hw; unfold mRun; rw [if_neg (by omega)]; exact Or.inl ⟨hv, rfl, rfl⟩
theorem mtell_f {T : RwF} {n v wr u : Int} {X : RwF} {x : MSt} (h : mRes v wr x (mRun T n X)) (e : v = 0) (hu : u = -2 - wr) : u = mTell T n X := by
  rcases h with ⟨g, _⟩ | ⟨_, g1, g2⟩
  · omega
  · unfold mTell; rw [if_neg (by rw [g1]; simp), g2]; exact hu
theorem mtell_g {T : RwF} {n v wr u : Int} {X : RwF} {x : MSt} (h : mRes v wr x (mRun T n X)) (e : v = 1) (hu : u = xI x.2.2 1) : u = mTell T n X := by
  rcases h with ⟨_, g1, g2⟩ | ⟨g, _⟩
  · unfold mTell; rw [if_pos g1, g2]; exact hu
  · omega
theorem tells_k {T R0 S0 X : RwF} {n q : Int} (k : Nat) (hs : Sim n (q, 0, 0, 0, 0, 0, rZ, rZ, rZ, R0, S0) (q, 0, X)) (hq : 0 ≤ q) : (if (kAll T n k (q, 0, 0, 0, 0, 0, R0, S0)).2.1 ≠ 0 then -2 - (kAll T n k (q, 0, 0, 0, 0, 0, R0, S0)).2.1 else (kAll T n k (q, 0, 0, 0, 0, 0, R0, S0)).2.2.2.2.1) = if (mAll T n k (q, 0, X)).1 then xI (mAll T n k (q, 0, X)).2.2.2.2 1 else -2 - (mAll T n k (q, 0, X)).2.1 := by
  have key := sim_all (T := T) k hs hq
  have ek : kAll T n k (q, 0, 0, 0, 0, 0, R0, S0) = kDrop (cAll T n k (q, 0, 0, 0, 0, 0, rZ, rZ, rZ, R0, S0)) := (kDrop_all (T := T) (n := n) k (x := (q, 0, 0, 0, 0, 0, rZ, rZ, rZ, R0, S0))).symm
  rw [ek]
  generalize cAll T n k (q, 0, 0, 0, 0, 0, rZ, rZ, rZ, R0, S0) = x at key
  generalize mAll T n k (q, 0, X) = r at key
  have e2 : (kDrop x).2.1 = x.2.1 := rfl
  have e3 : (kDrop x).2.2.2.2.1 = x.2.2.2.2.1 := rfl
  rw [e2, e3]
  rcases key with ⟨g, hs2⟩ | ⟨g, ne, e⟩
  · have e0 : x.2.1 = 0 := hs2.2.2.1
    have e1 := hs2.2.2.2.2.2.1
    rw [if_neg (by rw [e0]; simp), if_pos g]
    exact e1
  · rw [e, if_pos ne, if_neg (by rw [g]; simp)]
/-- both tell alike -/
theorem tells_alike {T R0 S0 X : RwF} {n : Int} (hn : 0 ≤ n) (hX : ∀ j : Nat, j < 660 → j ≠ 4 → xI X j = 0) : kTell T n R0 S0 = mTell T n X := by
  have hq := rsk_le (T := T) (n := n) (p := 0) hn
  have hs : Sim n (rsk T n 0, 0, 0, 0, 0, 0, rZ, rZ, rZ, R0, S0) (rsk T n 0, 0, X) := by
    have z0 : xI X 0 = 0 := hX 0 (by omega) (by omega)
    have z1 : xI X 1 = 0 := hX 1 (by omega) (by omega)
    have z2 : xI X 2 = 0 := hX 2 (by omega) (by omega)
    unfold Sim
    simp only [z0, z1, z2]
    refine ⟨trivial, hq.2, trivial, trivial, trivial, trivial, trivial, by omega, by omega, by omega, ?_, ?_, ?_, ?_, ?_, ?_⟩
    · intro r hr; exact absurd hr (by simp)
    · intro r q hr; exact absurd hr (by simp)
    · intro r hr; exact absurd hr (by simp)
    · intro r h1 _; exact hX _ (by omega) (by omega)
    · intro r hr; exact absurd hr (by simp)
    · intro r hr; exact absurd hr (by simp)
  unfold kTell mTell kRun mRun
  by_cases hlt : rsk T n 0 < n
  · rw [if_pos hlt, if_pos hlt]
    exact tells_k 401 hs hq.1
  · rw [if_neg hlt, if_neg hlt]
    rw [if_neg (by simp), if_pos rfl]
    exact (hX 1 (by omega) (by omega)).symm
/-! the reader with the rows down, inflow, sink -/
def kQr (T : RwF) (n a : Int) : Nat → Int × Int → RwF → RwF
  | 0, _, Q => Q
  | k + 1, x, Q => rup (kQr T n a k x Q) (a * 4 + (k : Int)) (cNv T n (kQ T n k x).1 0 9999)
def jQr (T : RwF) (n a p f i : Int) (Q : RwF) : RwF := kQr T n a i.toNat (p, f) Q
theorem jQr0 {T : RwF} {n a p f i : Int} {Q : RwF} (hi : i = 0) : Q = jQr T n a p f i Q := by subst hi; rfl
theorem jQr_step {T : RwF} {n a p f i i' g v k : Int} {Q N M : RwF} (h1 : g = jQp T n p f i) (hM : M = jQr T n a p f i Q) (hN : N = rup M k v) (hk : k = a * 4 + i) (hv : v = jNv T n g 0 9999) (h0 : 0 ≤ i) (e : i' = i + 1) : N = jQr T n a p f i' Q := by
  subst e
  have e1 : jQr T n a p f (i + 1) Q = rup (jQr T n a p f i Q) (a * 4 + ((i.toNat : Nat) : Int)) (cNv T n (jQp T n p f i) 0 9999) := by
    unfold jQr jQp
    rw [show (i + 1).toNat = i.toNat + 1 by omega]
    rfl
  rw [e1, hN, hM, hk, hv, h1, show ((i.toNat : Nat) : Int) = i by omega]
  rfl
theorem reach_a3 {T : RwF} {n st p f w a b c f2 : Int} {D Q K RA SA : RwF} (hc : 12 ≤ a) (hf : f2 = jBl f st 3) : (p, f2, w, a, b, c, D, Q, K, RA, SA) = cReach T n st (p, f, w, a, b, c, D, Q, K, RA, SA) := by
  unfold cReach
  simp only [if_pos hc]
  rw [hf]; rfl
theorem reach_b3 {T : RwF} {n st p f w a b c im g1 g2 f2 i g3 f3 is g4 g5 f5 a2 dv kv : Int} {D Q K D2 Q2 K2 RA SA : RwF} (h0 : im = jIs T n p f wMouth) (h1 : g1 = jIp T n p f wMouth) (h3 : g3 = jQp T n g2 f2 i) (h4 : f3 = jQf T n g2 f2 i) (h5 : is = jIs T n g3 f3 wSink) (h6 : g4 = jIp T n g3 f3 wSink)
    (hD : D2 = rup D a dv) (hQ : Q2 = jQr T n a g2 f2 i Q) (hK : K2 = rup K a kv)
    (ha : ¬ 12 ≤ a) (hi : i = 4) (hm : (im ≠ 0 ∧ g2 = g1 ∧ f2 = f ∧ dv = -2) ∨ (im = 0 ∧ g2 = jNp T n g1 ∧ f2 = jNf T n g1 f 0 (a - 1) ∧ dv = jNv T n g1 0 (a - 1))) (hs : (is ≠ 0 ∧ g5 = jNp T n g4 ∧ f5 = jNf T n g4 f3 0 9999 ∧ kv = jNv T n g4 0 9999) ∨ (is = 0 ∧ g5 = g4 ∧ f5 = f3 ∧ kv = 0)) (e : a2 = a + 1) : (g5, f5, w, a2, b, c, D2, Q2, K2, RA, SA) = cReach T n st (p, f, w, a, b, c, D, Q, K, RA, SA) := by
  unfold cReach
  simp only [if_neg ha]
  unfold jIp at h1 h6
  subst hi
  have e0 : (if cIs T n p f wMouth = true then (cIp T n p f wMouth, f, (-2 : Int)) else cNum T n 0 (a - 1) (cIp T n p f wMouth, f)) = (g2, f2, dv) := by
    rcases hm with ⟨q1, q2, q3, q4⟩ | ⟨q1, q2, q3, q4⟩
    · rw [if_pos (kIs1 h0 q1), ← h1, q2, q3, q4]
    · rw [if_neg (by rw [kIs0 h0 q1]; simp), ← h1, q2, q3, q4]; rfl
  rw [e0]
  have e3 : g3 = cNp T n (cNp T n (cNp T n (cNp T n g2))) := h3
  have e4 : f3 = cNf T n (cNp T n (cNp T n (cNp T n g2))) (cNf T n (cNp T n (cNp T n g2)) (cNf T n (cNp T n g2) (cNf T n g2 f2 0 9999) 0 9999) 0 9999) 0 9999 := h4
  have e5 : cOpt T n 0 9999 0 wSink (g3, f3) = (g5, f5, kv) := by
    unfold cOpt
    rcases hs with ⟨q1, q2, q3, q4⟩ | ⟨q1, q2, q3, q4⟩
    · rw [if_pos (kIs1 h5 q1)]; simp only; rw [← h6, q2, q3, q4]; rfl
    · rw [if_neg (by simp only; rw [kIs0 h5 q1]; simp)]; simp only; rw [← h6, q2, q3, q4]
  have e6 : Q2 = rup (rup (rup (rup Q (a * 4) (cNv T n g2 0 9999)) (a * 4 + 1) (cNv T n (cNp T n g2) 0 9999)) (a * 4 + 2) (cNv T n (cNp T n (cNp T n g2)) 0 9999)) (a * 4 + 3) (cNv T n (cNp T n (cNp T n (cNp T n g2))) 0 9999) := by
    rw [hQ]
    show rup (rup (rup (rup Q (a * 4 + ((0 : Nat) : Int)) _) (a * 4 + ((1 : Nat) : Int)) _) (a * 4 + ((2 : Nat) : Int)) _) (a * 4 + ((3 : Nat) : Int)) _ = _
    rw [show a * 4 + ((0 : Nat) : Int) = a * 4 by omega]
    rfl
  simp only [cNum, ← e3, ← e4, e5, ← e, ← hD, ← hK, ← e6]
/-! right, store, wet keep the rows down, inflow, sink -/
theorem cst_ext {x : CSt} {p f w a b c : Int} {D Q K RA SA : RwF} (h : (p, f, w, a, b, c, RA, SA) = kDrop x) (hD : x.2.2.2.2.2.2.1 = D) (hQ : x.2.2.2.2.2.2.2.1 = Q) (hK : x.2.2.2.2.2.2.2.2.1 = K) : (p, f, w, a, b, c, D, Q, K, RA, SA) = x := by
  obtain ⟨p', f', w', a', b', c', D', Q', K', RA', SA'⟩ := x
  simp only [kDrop, Prod.mk.injEq] at h hD hQ hK
  obtain ⟨rfl, rfl, rfl, rfl, rfl, rfl, rfl, rfl⟩ := h
  rw [← hD, ← hQ, ← hK]
theorem lift_right {T : RwF} {n st p f w a b c p2 f2 w2 a2 b2 c2 : Int} {D Q K RA SA RA2 SA2 : RwF} (h : (p2, f2, w2, a2, b2, c2, RA2, SA2) = kRight T n st (p, f, w, a, b, c, RA, SA)) : (p2, f2, w2, a2, b2, c2, D, Q, K, RA2, SA2) = cRight T n st (p, f, w, a, b, c, D, Q, K, RA, SA) := by
  refine cst_ext (h.trans (kDrop_right (x := (p, f, w, a, b, c, D, Q, K, RA, SA))).symm) ?_ ?_ ?_ <;>
  · unfold cRight
    by_cases q : (14 : Int) ≤ b
    · simp only [if_pos q]
    · simp only [if_neg q]
theorem lift_store {T : RwF} {n st p f w a b c p2 f2 w2 a2 b2 c2 : Int} {D Q K RA SA RA2 SA2 : RwF} (h : (p2, f2, w2, a2, b2, c2, RA2, SA2) = kStore T n st (p, f, w, a, b, c, RA, SA)) : (p2, f2, w2, a2, b2, c2, D, Q, K, RA2, SA2) = cStore T n st (p, f, w, a, b, c, D, Q, K, RA, SA) := by
  refine cst_ext (h.trans (kDrop_store (x := (p, f, w, a, b, c, D, Q, K, RA, SA))).symm) ?_ ?_ ?_ <;>
  · unfold cStore
    by_cases q : (4 : Int) ≤ c
    · simp only [if_pos q]
    · simp only [if_neg q]
theorem lift_wet {T : RwF} {n st p f w a b c p2 f2 w2 a2 b2 c2 : Int} {D Q K RA SA RA2 SA2 : RwF} (h : (p2, f2, w2, a2, b2, c2, RA2, SA2) = kWet T n st (p, f, w, a, b, c, RA, SA)) : (p2, f2, w2, a2, b2, c2, D, Q, K, RA2, SA2) = cWet T n st (p, f, w, a, b, c, D, Q, K, RA, SA) := by
  refine cst_ext (h.trans (kDrop_wet (x := (p, f, w, a, b, c, D, Q, K, RA, SA))).symm) ?_ ?_ ?_ <;>
  · unfold cWet
    by_cases q : w ≠ 0
    · simp only [if_pos q]
    · simp only [if_neg q]
theorem part3_1 {T : RwF} {n p f q i1 p1 : Int} {r : _} {y : CSt} (hq : q = rsk T n p) (h1 : i1 = jIs T n q f wReach) (g1 : p1 = jIp T n q f wReach) (hy : y = cReach T n q (p1, f, r)) (c1 : i1 ≠ 0) : y = cPart T n (p, f, r) := by
  subst hq
  rw [cPart_eq, if_pos (kIs1 h1 c1), hy, g1]; rfl
theorem part3_2 {T : RwF} {n p f q i1 p1 i2 p2 : Int} {r : _} {y : CSt} (hq : q = rsk T n p) (h1 : i1 = jIs T n q f wReach) (g1 : p1 = jIp T n q f wReach) (h2 : i2 = jIs T n p1 f wRight) (g2 : p2 = jIp T n p1 f wRight) (hy : y = cRight T n q (p2, f, r)) (c1 : i1 = 0) (c2 : i2 ≠ 0) : y = cPart T n (p, f, r) := by
  subst hq
  have e1 := kIp0 h1 c1 g1
  rw [e1] at h2 g2
  rw [cPart_eq, if_neg (by rw [kIs0 h1 c1]; simp), if_pos (kIs1 h2 c2), hy, g2]; rfl
theorem part3_3 {T : RwF} {n p f q i1 p1 i2 p2 i3 p3 : Int} {r : _} {y : CSt} (hq : q = rsk T n p) (h1 : i1 = jIs T n q f wReach) (g1 : p1 = jIp T n q f wReach) (h2 : i2 = jIs T n p1 f wRight) (g2 : p2 = jIp T n p1 f wRight) (h3 : i3 = jIs T n p2 f wStore) (g3 : p3 = jIp T n p2 f wStore) (hy : y = cStore T n q (p3, f, r)) (c1 : i1 = 0) (c2 : i2 = 0) (c3 : i3 ≠ 0) : y = cPart T n (p, f, r) := by
  subst hq
  have e1 := kIp0 h1 c1 g1
  rw [e1] at h2 g2
  have e2 := kIp0 h2 c2 g2
  rw [e2] at h3 g3
  rw [cPart_eq, if_neg (by rw [kIs0 h1 c1]; simp), if_neg (by rw [kIs0 h2 c2]; simp), if_pos (kIs1 h3 c3), hy, g3]; rfl
theorem part3_4 {T : RwF} {n p f q i1 p1 i2 p2 i3 p3 i4 p4 : Int} {r : _} {y : CSt} (hq : q = rsk T n p) (h1 : i1 = jIs T n q f wReach) (g1 : p1 = jIp T n q f wReach) (h2 : i2 = jIs T n p1 f wRight) (g2 : p2 = jIp T n p1 f wRight) (h3 : i3 = jIs T n p2 f wStore) (g3 : p3 = jIp T n p2 f wStore) (h4 : i4 = jIs T n p3 f wWet) (g4 : p4 = jIp T n p3 f wWet) (hy : y = cWet T n q (p4, f, r)) (c1 : i1 = 0) (c2 : i2 = 0) (c3 : i3 = 0) (c4 : i4 ≠ 0) : y = cPart T n (p, f, r) := by
  subst hq
  have e1 := kIp0 h1 c1 g1
  rw [e1] at h2 g2
  have e2 := kIp0 h2 c2 g2
  rw [e2] at h3 g3
  have e3 := kIp0 h3 c3 g3
  rw [e3] at h4 g4
  rw [cPart_eq, if_neg (by rw [kIs0 h1 c1]; simp), if_neg (by rw [kIs0 h2 c2]; simp), if_neg (by rw [kIs0 h3 c3]; simp), if_pos (kIs1 h4 c4), hy, g4]; rfl
theorem part3_5 {T : RwF} {n p f q i1 p1 i2 p2 i3 p3 i4 p4 f2 : Int} {r : _} (hq : q = rsk T n p) (h1 : i1 = jIs T n q f wReach) (g1 : p1 = jIp T n q f wReach) (h2 : i2 = jIs T n p1 f wRight) (g2 : p2 = jIp T n p1 f wRight) (h3 : i3 = jIs T n p2 f wStore) (g3 : p3 = jIp T n p2 f wStore) (h4 : i4 = jIs T n p3 f wWet) (g4 : p4 = jIp T n p3 f wWet) (hf : f2 = jBl f q 1) (c1 : i1 = 0) (c2 : i2 = 0) (c3 : i3 = 0) (c4 : i4 = 0) : (p4, f2, r) = cPart T n (p, f, r) := by
  subst hq
  have e1 := kIp0 h1 c1 g1
  rw [e1] at h2 g2
  have e2 := kIp0 h2 c2 g2
  rw [e2] at h3 g3
  have e3 := kIp0 h3 c3 g3
  rw [e3] at h4 g4
  have e4 := kIp0 h4 c4 g4
  rw [cPart_eq, if_neg (by rw [kIs0 h1 c1]; simp), if_neg (by rw [kIs0 h2 c2]; simp), if_neg (by rw [kIs0 h3 c3]; simp), if_neg (by rw [kIs0 h4 c4]; simp), e4, hf]; rfl
theorem bet3 {T : RwF} {n p f : Int} {r : Int × Int × Int × Int × RwF × RwF × RwF × RwF × RwF} : cBet T n (p, f, r) = (decide (jBv T n p f = 1), jBp T n p f, jBf T n p f, r) := by
  unfold cBet jBv jBp jBf
  by_cases h1 : f ≠ 0 ∨ n ≤ rsk T n p
  · simp only [if_pos h1]; rfl
  · by_cases h2 : bT T (rsk T n p) ≠ 59
    · simp only [if_neg h1, if_pos h2]; rfl
    · simp only [if_neg h1, if_neg h2]; rfl
def cW (T : RwF) (n : Int) (k : Nat) (go : Int) (x : CSt) : CSt := if go = 1 then cAll T n k x else x
def cRun (T : RwF) (n : Int) (D Q K R S : RwF) : CSt := if rsk T n 0 < n then cAll T n 401 (rsk T n 0, 0, 0, 0, 0, 0, D, Q, K, R, S) else (rsk T n 0, 0, 0, 0, 0, 0, D, Q, K, R, S)
theorem run3_init {T : RwF} {n g go : Int} {D Q K R S : RwF} (hg : g = rsk T n 0) (h : (go = 1 ∧ g < n) ∨ (go = 0 ∧ n ≤ g)) : cW T n 401 go (g, 0, 0, 0, 0, 0, D, Q, K, R, S) = cRun T n D Q K R S := by
  subst hg
  unfold cW cRun
  rcases h with ⟨h1, h2⟩ | ⟨h1, h2⟩
  · rw [if_pos h1, if_pos h2]
  · rw [if_neg (by omega), if_neg (by omega)]
theorem run3_step {T : RwF} {n go p1 f1 g2 f2 v : Int} {k k' : Nat} {x K : CSt} {r : Int × Int × Int × Int × RwF × RwF × RwF × RwF × RwF} (h : cW T n k go x = K) (hy : (p1, f1, r) = cPart T n x) (h2 : g2 = jBp T n p1 f1) (h3 : f2 = jBf T n p1 f1) (h4 : v = jBv T n p1 f1) (hk : k = k' + 1) (hg : go = 1) : cW T n k' v (g2, f2, r) = K := by
  subst hk
  unfold cW at h ⊢
  rw [if_pos hg, cAll, ← hy, bet3] at h
  simp only at h
  rw [← h2, ← h3, ← h4] at h
  simpa using h
theorem run3_end {T : RwF} {n go : Int} {k : Nat} {x K : CSt} (h : cW T n k go x = K) (hg : go ≠ 1 ∨ k = 0) : x = K := by
  unfold cW at h
  rcases hg with hg | hg
  · rw [if_neg hg] at h; exact h
  · subst hg
    split at h
    · exact h
    · exact h
