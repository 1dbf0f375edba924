/-! ===== WHAT THE MEMORY HOLDS: abstract values; where the class keeps them, where the reference ===== -/
/-- a valley: how many places, how many people, far (6 a + b), can, from, to -/
abbrev VT : Type := Nat × Nat × (Nat → Nat) × (Nat → Nat) × (Nat → Nat) × (Nat → Nat)
def vP (v : VT) : Nat := v.1
def vN (v : VT) : Nat := v.2.1
def vF (v : VT) : Nat → Nat := v.2.2.1
def vC (v : VT) : Nat → Nat := v.2.2.2.1
def vA (v : VT) : Nat → Nat := v.2.2.2.2.1
def vB (v : VT) : Nat → Nat := v.2.2.2.2.2
def wV (v : VT) : Prop := 2 ≤ vP v ∧ vP v ≤ 6 ∧ vN v ≤ 6 ∧ (∀ k, vF v k ≤ 9) ∧ (∀ p, vC v p < 256) ∧ (∀ p, vA v p ≤ 40) ∧ ∀ p, vB v p ≤ 40
def cV (v : VT) (I : Nat → Nat → Int32) : Prop := I 10 0 = nI (vP v) ∧ I 10 1 = nI (vN v) ∧ (∀ k, k < 36 → I 11 k = nI (vF v k)) ∧ (∀ p, p < vN v → I 13 p = nI (vC v p)) ∧ (∀ p, p < vN v → I 14 p = nI (vA v p)) ∧ ∀ p, p < vN v → I 15 p = nI (vB v p)
def mV (v : VT) (I : Nat → Nat → Int32) : Prop := I 54 0 = nI (vP v) ∧ I 54 2 = nI (vN v) ∧ (∀ k, k < 36 → I 55 k = nI (vF v k)) ∧ (∀ p, p < vN v → I 56 (4 * p + 1) = nI (vC v p)) ∧ (∀ p, p < vN v → I 56 (4 * p + 2) = nI (vA v p)) ∧ ∀ p, p < vN v → I 56 (4 * p + 3) = nI (vB v p)
/-- a log: how much it has, seconds, places, sounds, heard -/
abbrev LT : Type := Nat × (Nat → Nat) × (Nat → Nat) × (Nat → Nat) × (Nat → Nat)
def lN_ (g : LT) : Nat := g.1
def lS (g : LT) : Nat → Nat := g.2.1
def lP (g : LT) : Nat → Nat := g.2.2.1
def lO (g : LT) : Nat → Nat := g.2.2.2.1
def lH (g : LT) : Nat → Nat := g.2.2.2.2
def wL (v : VT) (g : LT) : Prop := lN_ g ≤ 8 ∧ (∀ i, lS g i ≤ 40) ∧ (∀ i, lP g i < vP v) ∧ (∀ i, lO g i < 8) ∧ ∀ i, lH g i ≤ 1
def cL (g : LT) (I : Nat → Nat → Int32) : Prop := I 16 0 = nI (lN_ g) ∧ (∀ i, i < lN_ g → I 17 i = nI (lS g i)) ∧ (∀ i, i < lN_ g → I 18 i = nI (lP g i)) ∧ (∀ i, i < lN_ g → I 19 i = nI (lO g i)) ∧ ∀ i, i < lN_ g → I 20 i = nI (lH g i)
def mL (g : LT) (I : Nat → Nat → Int32) : Prop := I 54 4 = nI (lN_ g) ∧ (∀ i, i < lN_ g → I 57 (4 * i) = nI (lS g i)) ∧ (∀ i, i < lN_ g → I 57 (4 * i + 1) = nI (lP g i)) ∧ (∀ i, i < lN_ g → I 57 (4 * i + 2) = nI (lO g i)) ∧ ∀ i, i < lN_ g → I 57 (4 * i + 3) = nI (lH g i)
/-- a course: now; done: how much, person, sound, second, place; where people are; what may be undone: how much, what (0 second, 1 done, 2 moved), who, from where -/
abbrev QT : Type := Nat × Nat × (Nat → Nat) × (Nat → Nat) × (Nat → Nat) × (Nat → Nat) × (Nat → Nat) × Nat × (Nat → Nat) × (Nat → Nat) × (Nat → Nat)
def qT (q : QT) : Nat := q.1
def qD (q : QT) : Nat := q.2.1
def qDP (q : QT) : Nat → Nat := q.2.2.1
def qDO (q : QT) : Nat → Nat := q.2.2.2.1
def qDS (q : QT) : Nat → Nat := q.2.2.2.2.1
def qDL (q : QT) : Nat → Nat := q.2.2.2.2.2.1
def qW (q : QT) : Nat → Nat := q.2.2.2.2.2.2.1
def qU (q : QT) : Nat := q.2.2.2.2.2.2.2.1
def qUK (q : QT) : Nat → Nat := q.2.2.2.2.2.2.2.2.1
def qUP (q : QT) : Nat → Nat := q.2.2.2.2.2.2.2.2.2.1
def qUL (q : QT) : Nat → Nat := q.2.2.2.2.2.2.2.2.2.2
/-- how many of the first n are c -/
def cnt (f : Nat → Nat) (c : Nat) : Nat → Nat
  | 0 => 0
  | n + 1 => cnt f c n + if f n = c then 1 else 0
def wQ (v : VT) (q : QT) : Prop := qT q ≤ 60 ∧ qD q ≤ 10 ∧ qU q ≤ 10 ∧ (∀ k, qDP q k < 6) ∧ (∀ k, qDO q k < 8) ∧ (∀ k, qDS q k ≤ 60) ∧ (∀ k, qDL q k < vP v) ∧ (∀ p, qW q p < vP v) ∧ (∀ k, qUK q k ≤ 2) ∧ (∀ k, k < qU q → qUK q k = 2 → qUP q k < vN v) ∧ (∀ k, qUL q k < vP v) ∧ cnt (qUK q) 0 (qU q) ≤ qT q ∧ cnt (qUK q) 1 (qU q) ≤ qD q
/-- the class keeps it in the object c and the rows behind it -/
def cQ (n c : Nat) (q : QT) (I : Nat → Nat → Int32) : Prop := I c 1 = nI (qT q) ∧ I c 2 = nI (qD q) ∧ I c 3 = nI (qU q) ∧ (∀ k, k < qD q → I (c + 1) k = nI (qDP q k)) ∧ (∀ k, k < qD q → I (c + 2) k = nI (qDO q k)) ∧ (∀ k, k < qD q → I (c + 3) k = nI (qDS q k)) ∧ (∀ k, k < qD q → I (c + 4) k = nI (qDL q k)) ∧ (∀ p, p < n → I (c + 5) p = nI (qW q p)) ∧ (∀ k, k < qU q → I (c + 6) k = nI (qUK q k)) ∧ (∀ k, k < qU q → qUK q k = 2 → I (c + 7) k = nI (qUP q k)) ∧ ∀ k, k < qU q → qUK q k = 2 → I (c + 8) k = nI (qUL q k)
/-- the reference in a row of 69 -/
def mQ (n : Nat) (q : QT) (S : Nat → Int32) : Prop := S 0 = nI (qT q) ∧ S 1 = nI (qD q) ∧ S 2 = nI (qU q) ∧ (∀ k, k < qD q → S (9 + 4 * k) = nI (qDP q k)) ∧ (∀ k, k < qD q → S (10 + 4 * k) = nI (qDO q k)) ∧ (∀ k, k < qD q → S (11 + 4 * k) = nI (qDS q k)) ∧ (∀ k, k < qD q → S (12 + 4 * k) = nI (qDL q k)) ∧ (∀ p, p < n → S (3 + p) = nI (qW q p)) ∧ (∀ k, k < qU q → S (49 + 2 * k) = if qUK q k = 0 then -1 else if qUK q k = 1 then -2 else nI (qUP q k)) ∧ ∀ k, k < qU q → qUK q k = 2 → S (50 + 2 * k) = nI (qUL q k)
/-- the text: how much, bytes -/
abbrev XT : Type := Nat × (Nat → Nat)
def wX (x : XT) : Prop := x.1 ≤ 200 ∧ ∀ k, x.2 k ≤ 255
def cX (x : XT) (I : Nat → Nat → Int32) : Prop := I 2 0 = nI x.1 ∧ ∀ k, k < x.1 → I 9 k = nI (x.2 k)
def mX (x : XT) (I : Nat → Nat → Int32) : Prop := I 54 11 = nI x.1 ∧ ∀ k, k < x.1 → I 61 k = nI (x.2 k)
/-- an image -/
def cI (n c : Nat) (o : Option QT) (I : Nat → Nat → Int32) : Prop := match o with
  | none => I c 0 = 0
  | some q => I c 0 = 1 ∧ cQ n c q I
def mI (n a : Nat) (o : Option QT) (I : Nat → Nat → Int32) : Prop := match o with
  | none => I 60 a = 0
  | some q => I 60 a = 1 ∧ mQ n q (fun k => I 59 (69 * a + k))
def wI (v : VT) (o : Option QT) : Prop := match o with
  | none => True
  | some q => wQ v q
/-- all of it -/
abbrev AT : Type := VT × LT × QT × XT × Option QT × Option QT
def cA_ (a : AT) (I : Nat → Nat → Int32) : Prop := cV a.1 I ∧ cL a.2.1 I ∧ cQ (vN a.1) 21 a.2.2.1 I ∧ cX a.2.2.2.1 I ∧ cI (vN a.1) 30 a.2.2.2.2.1 I ∧ cI (vN a.1) 39 a.2.2.2.2.2 I
def mA_ (a : AT) (I : Nat → Nat → Int32) : Prop := mV a.1 I ∧ mL a.2.1 I ∧ mQ (vN a.1) a.2.2.1 (I 58) ∧ mX a.2.2.2.1 I ∧ mI (vN a.1) 0 a.2.2.2.2.1 I ∧ mI (vN a.1) 1 a.2.2.2.2.2 I
def wA_ (a : AT) : Prop := wV a.1 ∧ wL a.1 a.2.1 ∧ wQ a.1 a.2.2.1 ∧ wX a.2.2.2.1 ∧ wI a.1 a.2.2.2.2.1 ∧ wI a.1 a.2.2.2.2.2
/-- both hold the same -/
def Rl (a : AT) (I : Nat → Nat → Int32) (J : Nat → Nat → Int64) : Prop := wA_ a ∧ cA_ a I ∧ mA_ a I ∧ J 1 7 = J 54 9
/-- the class' cells and the reference's -/
def cSame (I I' : Nat → Nat → Int32) : Prop := ∀ k, k < 54 → I' k = I k
def mSame (I I' : Nat → Nat → Int32) : Prop := ∀ k, 54 ≤ k → I' k = I k
