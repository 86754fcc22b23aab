/-! THE STATE, AS NUMBERS: v 0: 0 rafts, 1 anchors, 2 bytes typed, 3 heard, 4 known, 5 ropes, 6 7 whether an image is kept, 8 9 how much an image knows; v 1 deep, v 2 grip, v 3 owner, v 4 weight, v 5 worth, v 6 roped; v 7 now (cell 0.., links 8.., age 16.., how 24.., next 32.., wealth 38.., gone 44); v 8 what was; v 9 v 10 the images' now, v 11 v 12 what was for them; v 13 the text; v 14 v 15 what was heard -/
abbrev Vw : Type := Nat → Nat → Nat
def rowOK (nr : Nat) (f : Nat → Nat) : Prop := (∀ a, a < 8 → f a < 10 ∧ f (8 + a) ≤ 60 ∧ f (16 + a) ≤ 99 ∧ f (24 + a) ≤ 2) ∧ (∀ r, r < 6 → f (32 + r) < 6 ∧ (r < nr → f (32 + r) < nr) ∧ f (38 + r) ≤ 9999) ∧ f 44 < 2 ^ nr
def InvN (v : Vw) : Prop := v 0 0 ≤ 6 ∧ v 0 1 ≤ 8 ∧ (∀ x, x < 10 → 1 ≤ v 1 x ∧ v 1 x ≤ 9 ∧ v 2 x ≤ 3) ∧ (∀ a, a < v 0 1 → v 3 a < v 0 0 ∧ v 4 a ≤ 9 ∧ v 5 a ≤ 99) ∧ (∀ r, r < 6 → v 6 r < 64) ∧ rowOK (v 0 0) (v 7)
def rowsOK (nr n : Nat) (f : Nat → Nat) : Prop := n ≤ 10 ∧ ∀ k, k < n → rowOK nr (fun i => f (45 * k + i))
/-- how many of the lowest eight bits -/
def popN (n : Nat) : Nat := sumN (fun k => if n.testBit k then 1 else 0) 8
def Inv (v : Vw) : Prop := InvN v ∧ rowsOK (v 0 0) (v 0 4) (v 8) ∧ v 0 6 ≤ 1 ∧ v 0 7 ≤ 1 ∧ (v 0 6 = 1 → rowOK (v 0 0) (v 9) ∧ rowsOK (v 0 0) (v 0 8) (v 11)) ∧ (v 0 7 = 1 → rowOK (v 0 0) (v 10) ∧ rowsOK (v 0 0) (v 0 9) (v 12)) ∧ v 0 2 ≤ 200 ∧ (∀ i, i < v 0 2 → v 13 i < 256) ∧ v 0 3 ≤ 6 ∧ (∀ i, i < v 0 3 → 1 ≤ v 14 i ∧ v 14 i ≤ 99 ∧ v 15 i ≤ 1) ∧ sumN (fun r => popN (v 6 r)) (v 0 0) = 2 * v 0 5
/-- the class: what stands of the town, and now -/
def RcN (σ : Sg) (v : Vw) : Prop := σ 1 7 = nI (v 0 0) ∧ σ 1 8 = nI (v 0 1) ∧ σ 1 9 = nI (v 0 5) ∧ (∀ x, x < 10 → σ 2 x = nI (v 1 x)) ∧ (∀ x, x < 10 → σ 3 x = nI (v 2 x)) ∧ (∀ a, a < v 0 1 → σ 4 a = nI (v 3 a)) ∧ (∀ a, a < v 0 1 → σ 5 a = nI (v 4 a)) ∧ (∀ a, a < v 0 1 → σ 6 a = nI (v 5 a)) ∧ (∀ r, r < 6 → σ 7 r = nI (v 6 r)) ∧ ∀ i, i < 45 → σ 20 i = nI (v 7 i)
def RcP (σ : Sg) (v : Vw) : Prop := σ 21 1 = nI (v 0 4) ∧ ∀ i, i < 45 * v 0 4 → σ 22 i = nI (v 8 i)
def RcI (σ : Sg) (v : Vw) : Prop := σ 23 2 = nI (v 0 6) ∧ σ 28 2 = nI (v 0 7) ∧ (v 0 6 = 1 → (∀ i, i < 45 → σ 25 i = nI (v 9 i)) ∧ σ 26 1 = nI (v 0 8) ∧ ∀ i, i < 45 * v 0 8 → σ 27 i = nI (v 11 i)) ∧ (v 0 7 = 1 → (∀ i, i < 45 → σ 30 i = nI (v 10 i)) ∧ σ 31 1 = nI (v 0 9) ∧ ∀ i, i < 45 * v 0 9 → σ 32 i = nI (v 12 i))
def RcT (σ : Sg) (v : Vw) : Prop := σ 33 1 = nI (v 0 2) ∧ ∀ i, i < v 0 2 → σ 34 i = nI (v 13 i)
def RcH (σ : Sg) (v : Vw) : Prop := σ 43 5 = nI (v 0 3) ∧ ∀ i, i < v 0 3 → σ 44 i = nI (v 14 i) ∧ σ 45 i = nI (v 15 i)
def Rc (σ : Sg) (v : Vw) : Prop := RcN σ v ∧ RcP σ v ∧ RcI σ v ∧ RcT σ v ∧ RcH σ v
/-- where the model keeps what the class has at i of a row -/
def mq (i : Nat) : Nat := if i < 32 then i else if i < 44 then i + 1 else 32
def RmN (σ : Sg) (v : Vw) : Prop := σ 4 0 = nI (v 0 0) ∧ σ 7 0 = nI (v 0 1) ∧ (∀ x, x < 10 → σ 2 x = nI (v 1 x)) ∧ (∀ x, x < 10 → σ 3 x = nI (v 2 x)) ∧ (∀ a, a < v 0 1 → σ 8 a = nI (v 3 a)) ∧ (∀ a, a < v 0 1 → σ 10 a = nI (v 4 a)) ∧ (∀ a, a < v 0 1 → σ 12 a = nI (v 5 a)) ∧ (∀ r, r < 6 → σ 6 r = nI (v 6 r)) ∧ ∀ i, i < 45 → σ 13 (mq i) = nI (v 7 i)
def rowsM (σ : Sg) (c o n : Nat) (f : Nat → Nat) : Prop := ∀ k, k < n → ∀ i, i < 45 → σ c (o + 45 * k + mq i) = nI (f (45 * k + i))
def RmP (σ : Sg) (v : Vw) : Prop := σ 14 0 = nI (v 0 4) ∧ rowsM σ 15 0 (v 0 4) (v 8)
def RmI (σ : Sg) (v : Vw) : Prop := σ 17 0 = nI (v 0 6) ∧ σ 17 1 = nI (v 0 7) ∧ (v 0 6 = 1 → rowsM σ 16 0 1 (v 9) ∧ σ 14 1 = nI (v 0 8) ∧ rowsM σ 15 450 (v 0 8) (v 11)) ∧ (v 0 7 = 1 → rowsM σ 16 45 1 (v 10) ∧ σ 14 2 = nI (v 0 9) ∧ rowsM σ 15 900 (v 0 9) (v 12))
def RmT (σ : Sg) (v : Vw) : Prop := σ 0 1 = nI (v 0 2) ∧ ∀ i, i < v 0 2 → σ 1 i = (nI (v 13 i)).toInt8.toInt32
def RmH (σ : Sg) (v : Vw) : Prop := σ 0 28 = nI (v 0 3) ∧ ∀ i, i < v 0 3 → σ 20 i = nI (v 14 i) ∧ σ 21 i = nI (v 15 i)
def Rm (σ : Sg) (v : Vw) : Prop := RmN σ v ∧ RmP σ v ∧ RmI σ v ∧ RmT σ v ∧ RmH σ v
-- the words of the state
def liesV (v : Vw) (a : Nat) : Bool := v 7 (24 + a) == 0
def strAt (v : Vw) (x a k : Nat) : Nat := v 4 a * (v 2 x + 1) + k / v 1 x
def strV (v : Vw) (a : Nat) : Nat := strAt v (v 7 a) a (v 7 (8 + a))
def holdC (v : Vw) (x : Nat) : Nat := sumN (fun o => if liesV v o && v 7 o == x then strV v o else 0) (v 0 1)
/-- the same over another row -/
def strR (v : Vw) (f : Nat → Nat) (a : Nat) : Nat := strAt v (f a) a (f (8 + a))
def holdR (v : Vw) (f : Nat → Nat) (x : Nat) : Nat := sumN (fun o => if f (24 + o) == 0 && f o == x then strR v f o else 0) (v 0 1)
def goneV (v : Vw) (r : Nat) : Bool := (v 7 44).testBit r
/-- the first that is not gone, from r on, k steps at most; 6 more is nobody -/
def heirV (v : Vw) : Nat → Nat → Option Nat
  | 0, _ => none
  | k + 1, r => if goneV v r then heirV v k (v 7 (32 + r)) else some r
def whoV (v : Vw) (a : Nat) : Option Nat := heirV v 6 (v 3 a)
def whoI (o : Option Nat) : Int32 := match o with
  | some r => nI r
  | none => -9
def leftV (v : Vw) (a : Nat) : Nat := v 5 a - v 7 (16 + a)
def estV (v : Vw) (r : Nat) : Nat := sumN (fun a => if liesV v a && decide (whoV v a = some r) then leftV v a else 0) (v 0 1)
def townStep (v : Vw) (t : Nat) : Nat → Nat
  | 0 => t
  | n + 1 => townStep v t n ||| (if (townStep v t n).testBit n then v 6 n else 0)
def townK (v : Vw) (t : Nat) : Nat → Nat
  | 0 => t
  | n + 1 => townStep v (townK v t n) (v 0 0)
def townV (v : Vw) (r : Nat) : Nat := townK v (2 ^ r) 6
def inTown (v : Vw) (t a : Nat) : Bool := liesV v a && t.testBit (v 3 a)
def mightV (v : Vw) (t : Nat) : Nat := sumN (fun a => if inTown v t a then strV v a else 0) (v 0 1)
def thoseV (v : Vw) (h : Nat) : Nat := bitsN (fun a => v 7 (24 + a) == h) (v 0 1)
def lyingInV (v : Vw) (x : Nat) : Nat := bitsN (fun a => liesV v a && v 7 a == x) (v 0 1)
theorem str_le {v : Vw} (h : InvN v) {x a k : Nat} (hx : x < 10) (ha : a < v 0 1) (hk : k ≤ 60) : strAt v x a k ≤ 96 := by
  obtain ⟨h1, h2, h3, h4, h5, h6⟩ := h
  obtain ⟨d1, d2, d3⟩ := h3 x hx
  obtain ⟨o1, o2, o3⟩ := h4 a ha
  unfold strAt
  have e1 : v 4 a * (v 2 x + 1) ≤ 9 * 4 := Nat.mul_le_mul o2 (by omega)
  have e2 : k / v 1 x ≤ k := Nat.div_le_self k _
  omega
theorem strV_le {v : Vw} (h : InvN v) {a : Nat} (ha : a < v 0 1) : strV v a ≤ 96 := by
  obtain ⟨q1, q2, q3, q4, q5, q6⟩ := id h
  have := q6.1 a (by omega)
  exact str_le h this.1 ha this.2.1
