/-! THE MEANING, on a row of numbers as the reference has it (0 wagons, 1 watchers, 2 texts, 3 wood, 4 wolves, 5 hunger, 6 hour, 7 slept, 8 lost, 9 burnt, 10 z; 12 + 3 k a wagon; 48 + 5 w a watcher; 88 + 200 t a text) -/
abbrev Rw : Type := Nat → Int32
def rN (r : Rw) : Nat := (r 0).toNatClampNeg
def rW (r : Rw) : Nat := (r 1).toNatClampNeg
def rT (r : Rw) : Nat := (r 2).toNatClampNeg
def clp (x m : Int32) : Int32 := if 0 ≤ x then (if x ≤ m then x else m) else 0
/-- texts -/
def jnR (c x y : Int32) : Int32 :=
  if c = 43 then x + y else if c = 45 then x - y else if c = 42 then x * y else if c = 47 then (if y = 0 then 0 else x / y)
  else if c = 60 then (if x < y then 1 else 0) else if c = 62 then (if y < x then 1 else 0) else if c = 61 then (if x = y then 1 else 0)
  else if c = 38 then (if x = 0 then 0 else if y = 0 then 0 else 1) else (if x = 0 then (if y = 0 then 0 else 1) else 1)
def evS (nm : Int32 → Int32) : List (Int32 × Int32) → List Int32 → List Int32
  | [], s => s
  | q :: l, s =>
    if q.1 = 2 then
      (if q.2 = 33 then (match s with
        | [] => []
        | x :: s' => evS nm l ((if x = 0 then 1 else 0) :: s'))
      else (match s with
        | y :: x :: s' => evS nm l (jnR q.2 x y :: s')
        | _ => []))
    else evS nm l ((if q.1 = 0 then q.2 else nm q.2) :: s)
def nmK (key a b c v : Int32) : Int32 :=
  if key = 0 then (if v = 102 then a else if v = 110 then b else c)
  else if key = 1 then (if v = 103 then a else if v = 116 then b else c)
  else (if v = 116 then a else b)
/-- a step that a text of this key may have -/
def okS (key : Int32) (q : Int32 × Int32) : Prop :=
  (q.1 = 0 ∧ 0 ≤ q.2 ∧ q.2 ≤ 9999) ∨
  (q.1 = 1 ∧ ((key = 0 ∧ (q.2 = 102 ∨ q.2 = 110 ∨ q.2 = 119)) ∨ (key = 1 ∧ (q.2 = 103 ∨ q.2 = 116 ∨ q.2 = 104)) ∨ (key = 2 ∧ (q.2 = 116 ∨ q.2 = 101)))) ∨
  (q.1 = 2 ∧ (q.2 = 33 ∨ q.2 = 43 ∨ q.2 = 45 ∨ q.2 = 42 ∨ q.2 = 47 ∨ q.2 = 60 ∨ q.2 = 62 ∨ q.2 = 61 ∨ q.2 = 38 ∨ q.2 = 124))
/-- the height of the pile behind the steps, from a height: every step finds what it works on, the height stays under 97 -/
def htS : List (Int32 × Int32) → Nat → Option Nat
  | [], n => some n
  | q :: l, n =>
    if q.1 = 2 then
      (if q.2 = 33 then (if 1 ≤ n then htS l n else none)
      else (if 2 ≤ n then htS l (n - 1) else none))
    else (if n < 96 then htS l (n + 1) else none)
def stR (r : Rw) (t k : Nat) : Int32 × Int32 := (r (88 + 200 * t + 4 + 2 * k), r (88 + 200 * t + 4 + 2 * k + 1))
def mnR (r : Rw) (t : Nat) : Nat := (r (88 + 200 * t + 2)).toNatClampNeg
def txR (r : Rw) (t : Nat) : List (Int32 × Int32) := (List.range (mnR r t)).map (stR r t)
def okT (r : Rw) (t : Nat) : Prop :=
  (r (88 + 200 * t) = 0 ∨ r (88 + 200 * t) = 1 ∨ r (88 + 200 * t) = 2) ∧ r (88 + 200 * t + 2) = nI (mnR r t) ∧ mnR r t ≤ 96 ∧ (∀ k, k < mnR r t → okS (r (88 + 200 * t)) (stR r t k)) ∧ htS (txR r t) 0 = some 1
def evT (r : Rw) (t : Nat) (a b c : Int32) : Int32 := (evS (nmK (r (88 + 200 * t)) a b c) (txR r t) []).headD 0
def cntR (r : Rw) (key : Int32) : Nat → Int32
  | 0 => -1
  | t + 1 => if r (88 + 200 * t) = key then nI t else cntR r key t
/-- light, sight, guard, fears -/
def nxR (r : Rw) (k : Nat) : Int32 :=
  if rN r < 2 then 0 else if rN r = 2 then r (12 + 3 * (1 - k) + 1) else r (12 + 3 * ((k + 1) % rN r) + 1) + r (12 + 3 * ((k + rN r - 1) % rN r) + 1)
def lwR (r : Rw) (key a b c without m : Int32) : Int32 :=
  if 0 ≤ cntR r key (rT r) then clp (evT r (cntR r key (rT r)).toNatClampNeg a b c) m else without
def ltR (r : Rw) (k : Nat) : Int32 := lwR r 0 (r (12 + 3 * k + 1)) (nxR r k) (r 3) (2 * r (12 + 3 * k + 1) + nxR r k) 99
def plR (e t l : Int32) : Int32 := (if 0 ≤ e - t / 10 then e - t / 10 else 0) + l / 4
def sgR (kind e t l f : Int32) : Int32 :=
  if kind = 1 then plR e t l / 2 else if kind = 2 then e else if kind = 3 then plR e t l / 2 + 1 else if kind = 4 then (if f ≤ 0 then e + 0 else e + 3)
  else if kind = 5 then (if t ≤ 5 then plR e t l else 0) else plR e t l
def seR (r : Rw) (w : Nat) : Int32 :=
  if r (48 + 5 * w + 4) = 0 then 0 else
  if 0 ≤ r (48 + 5 * w + 1) ∧ r (48 + 5 * w + 1) ≤ r 0 - 1 then
    sgR (r (48 + 5 * w)) (r (48 + 5 * w + 2)) (r (48 + 5 * w + 3)) (ltR r (r (48 + 5 * w + 1)).toNatClampNeg) (r (12 + 3 * (r (48 + 5 * w + 1)).toNatClampNeg))
  else 0
def wtR (kind e : Int32) : Int32 := if kind = 1 then e + 4 else if kind = 2 then 20 - e else if kind = 3 then 2 * (e + 4) else if kind = 4 then 29 - e else if kind = 5 then 2 else e
def gdA (r : Rw) (k : Nat) (l : Int32) : Nat → Int32
  | 0 => l
  | w + 1 => gdA r k l w + (if r (48 + 5 * w + 1) = nI k then seR r w else 0)
def gdR (r : Rw) (k : Nat) : Int32 := gdA r k (ltR r k) (rW r)
def frR (r : Rw) (k : Nat) : Int32 := lwR r 1 (gdR r k) (r (12 + 3 * k + 2)) (r 5) (gdR r k + r (12 + 3 * k + 2)) 999
/-- where they come: the best so far (-1: none), its fears, of the first k wagons -/
def cmA (r : Rw) : Nat → Int32 × Int32
  | 0 => (-1, 0)
  | k + 1 => if (cmA r k).1 < 0 then (nI k, frR r k) else if (cmA r k).2 ≤ frR r k then cmA r k else (nI k, frR r k)
def cmR (r : Rw) : Int32 := if r 4 ≤ 0 then -1 else (cmA r (rN r)).1
/-- an hour -/
def bnA (r : Rw) : Nat → Rw
  | 0 => r
  | k + 1 => if bnA r k (12 + 3 * k + 1) ≤ bnA r k 3 then upd (upd (bnA r k) 3 (bnA r k 3 - bnA r k (12 + 3 * k + 1))) 9 (bnA r k 9 + bnA r k (12 + 3 * k + 1)) else upd (bnA r k) (12 + 3 * k + 1) 0
/-- whether a fire went out among the first k -/
def woA (r : Rw) : Nat → Int32
  | 0 => 0
  | k + 1 => if bnA r k (12 + 3 * k + 1) ≤ bnA r k 3 then woA r k else 1
def bnR (r : Rw) : Rw := bnA r (rN r)
def tkAt (r : Rw) (k : Nat) : Rw :=
  if r 4 + r 5 ≤ gdR r k ∨ r (12 + 3 * k) ≤ 0 then upd (upd r (12 + 3 * k + 2) (clp (r (12 + 3 * k + 2) + 1) 99)) 5 (clp (r 5 + 1) 99)
  else upd (upd (upd (upd r (12 + 3 * k) (r (12 + 3 * k) - 1)) 8 (r 8 + 1)) 5 0) (12 + 3 * k + 2) 0
def tkR (r : Rw) : Rw := if 0 ≤ cmR r then tkAt r (cmR r).toNatClampNeg else r
def tiR (r : Rw) (w : Nat) : Int32 := lwR r 2 (r (48 + 5 * w + 3)) (r (48 + 5 * w + 2)) 0 1 99
def trA (r : Rw) : Nat → Rw
  | 0 => r
  | w + 1 => if trA r w (48 + 5 * w + 4) = 1 then upd (trA r w) (48 + 5 * w + 3) (clp (trA r w (48 + 5 * w + 3) + tiR (trA r w) w) 999)
      else upd (upd (trA r w) (48 + 5 * w + 3) (clp (trA r w (48 + 5 * w + 3) - 2) 999)) 7 (trA r w 7 + 1)
def hrX (r : Rw) : Rw := trA (tkR (bnR r)) (rW r)
def hrR (r : Rw) : Rw := upd (hrX r) 6 (hrX r 6 + 1)
def hrN (r : Rw) : Nat → Rw
  | 0 => r
  | n + 1 => hrR (hrN r n)
/-- what a row keeps to -/
def okR (r : Rw) : Prop :=
  (r 0 = nI (rN r) ∧ rN r ≤ 12) ∧ (r 1 = nI (rW r) ∧ rW r ≤ 8) ∧ (r 2 = nI (rT r) ∧ rT r ≤ 14) ∧
  (0 ≤ r 3 ∧ r 3 ≤ 9999) ∧ (0 ≤ r 4 ∧ r 4 ≤ 99) ∧ (0 ≤ r 5 ∧ r 5 ≤ 99) ∧
  (∀ k, k < rN r → (0 ≤ r (12 + 3 * k) ∧ r (12 + 3 * k) ≤ 99) ∧ (0 ≤ r (12 + 3 * k + 1) ∧ r (12 + 3 * k + 1) ≤ 9) ∧ (0 ≤ r (12 + 3 * k + 2) ∧ r (12 + 3 * k + 2) ≤ 99)) ∧
  (∀ w, w < rW r → (0 ≤ r (48 + 5 * w) ∧ r (48 + 5 * w) ≤ 5) ∧ (0 ≤ r (48 + 5 * w + 1) ∧ r (48 + 5 * w + 1) ≤ 11) ∧ (1 ≤ r (48 + 5 * w + 2) ∧ r (48 + 5 * w + 2) ≤ 9) ∧ (0 ≤ r (48 + 5 * w + 3) ∧ r (48 + 5 * w + 3) ≤ 999) ∧ (r (48 + 5 * w + 4) = 0 ∨ r (48 + 5 * w + 4) = 1)) ∧
  (∀ t, t < rT r → okT r t)
