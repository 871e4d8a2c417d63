/-! what the states stand for -/
/-- posts, links, of each link the lesser post, the other one, the risk; eyes, price, seed -/
abbrev Net : Type := Nat × Nat × (Nat → Nat) × (Nat → Nat) × (Nat → Nat) × Nat × Nat × Nat
def nP (t : Net) : Nat := t.1
def nL (t : Net) : Nat := t.2.1
def nLo (t : Net) : Nat → Nat := t.2.2.1
def nHi (t : Net) : Nat → Nat := t.2.2.2.1
def nRk (t : Net) : Nat → Nat := t.2.2.2.2.1
def nEy (t : Net) : Nat := t.2.2.2.2.2.1
def nPr (t : Net) : Nat := t.2.2.2.2.2.2.1
def nSd (t : Net) : Nat := t.2.2.2.2.2.2.2
/-- a way: its row of posts, its outcome -/
abbrev Wy : Type := List (List Nat × Nat)
def wRow (ws : Wy) (k : Nat) : List Nat := (ws.getD k ([], 0)).1
def wOut (ws : Wy) (k : Nat) : Nat := (ws.getD k ([], 0)).2
def lkB (t : Net) (a b l : Nat) : Bool := (nLo t l == a && nHi t l == b) || (nLo t l == b && nHi t l == a)
/-- the least link below n that joins two posts -/
def lkS (t : Net) (a b : Nat) : Nat → Option Nat
  | 0 => none
  | n + 1 => match lkS t a b n with
    | some l => some l
    | none => if lkB t a b n then some n else none
def lkOf (t : Net) (a b : Nat) : Option Nat := lkS t a b (nL t)
def lkBit (t : Net) (a b : Nat) : Nat := match lkOf t a b with
  | some l => 2 ^ l
  | none => 0
/-- the links along a row, as bits -/
def rowMask (t : Net) : List Nat → Nat
  | a :: b :: r => lkBit t a b ||| rowMask t (b :: r)
  | _ => 0
def wMask (t : Net) (ws : Wy) (k : Nat) : Nat := rowMask t (wRow ws k)
/-- how many eyes -/
def eyC (E : Nat) : Nat := ((List.range 8).filter (fun p => E.testBit p)).length
def WFnet (t : Net) : Prop := nP t ≤ 8 ∧ nL t ≤ 12 ∧ (∀ l, l < nL t → nLo t l < nHi t l ∧ nHi t l < nP t ∧ 1 ≤ nRk t l ∧ nRk t l ≤ 9) ∧ (∀ l k, l < nL t → k < nL t → nLo t l = nLo t k → nHi t l = nHi t k → l = k) ∧ nEy t < 2 ^ nP t ∧ 1 ≤ nPr t ∧ nPr t ≤ 99 ∧ nSd t ≤ 9999 ∧ eyC (nEy t) ≤ 4
def WFrow (t : Net) (r : List Nat) : Prop := 2 ≤ r.length ∧ r.length ≤ 8 ∧ (∀ p ∈ r, p < nP t) ∧ r.Nodup ∧ ∀ i, i + 1 < r.length → lkOf t (r.getD i 0) (r.getD (i + 1) 0) ≠ none
def WFway (t : Net) (ws : Wy) : Prop := ws.length ≤ 12 ∧ ∀ k, k < ws.length → WFrow t (wRow ws k) ∧ wOut ws k ≤ 2
/-- a row of posts as the class packs it -/
def rowP : List Nat → Nat
  | [] => 0
  | p :: r => p + 8 * rowP r
def rowE (r : List Nat) : Nat := rowP r + r.length * 2 ^ 24
/-! ## the class -/
def RFnet (t : Net) (f : St) : Prop := gi f 1305 = nI (nP t) ∧ gi f 1306 = nI (nL t) ∧ gi f 1307 = nI (nEy t) ∧ gi f 1308 = nI (nPr t) ∧ gi f 1309 = nI (nSd t) ∧ (∀ l, l < nL t → fa f 14 l = nI (nLo t l) ∧ fa f 15 l = nI (nHi t l) ∧ fa f 16 l = nI (nRk t l)) ∧ ∀ a b, a < 8 → b < 8 → fa f 17 (a * 8 + b) = match lkOf t a b with
  | some l => nI l
  | none => -1
def wayAt (t : Net) (ws : Wy) (cnt : Int32) (rows links outs : Nat → Int32) : Prop := cnt = nI ws.length ∧ ∀ k, k < ws.length → rows k = nI (rowE (wRow ws k)) ∧ links k = nI (wMask t ws k) ∧ outs k = nI (wOut ws k)
def RFway (t : Net) (ws : Wy) (f : St) : Prop := wayAt t ws (gi f 1803) (fa f 19) (fa f 20) (fa f 21)
/-- how a thing done leads from the state behind it to the one ahead of it -/
def undoes (thing : Int32) (ws ws0 : Wy) : Prop := (thing = -1 ∧ ∃ r, ws = ws0 ++ [(r, 0)]) ∨ ∃ w o, w < ws0.length ∧ o ≤ 2 ∧ thing = nI (w * 4 + o) ∧ wOut ws0 w = o ∧ ∃ o2, o2 ≤ 2 ∧ ws = ws0.set w (wRow ws0 w, o2)
/-- the last things done, the latest first: hist holds the states ahead of each -/
def histF (things : Nat → Int32) : Nat → Wy → List Wy → Prop
  | 0, _, hist => hist = []
  | n + 1, ws, hist => ∃ ws0 h0, hist = ws0 :: h0 ∧ undoes (things n) ws ws0 ∧ histF things n ws0 h0
def slotF (t : Net) (sl : Nat → Option Wy) (f : St) : Prop := (∀ k, k < 3 → fa f 25 k = if (sl k).isSome then 1 else 0) ∧ (∀ w, sl 0 = some w → wayAt t w (gi f 2603) (fa f 27) (fa f 28) (fa f 29)) ∧ (∀ w, sl 1 = some w → wayAt t w (gi f 3003) (fa f 31) (fa f 32) (fa f 33)) ∧ ∀ w, sl 2 = some w → wayAt t w (gi f 3403) (fa f 35) (fa f 36) (fa f 37)
def RFhand (t : Net) (ws : Wy) (hist : List Wy) (sl : Nat → Option Wy) (f : St) : Prop := gi f 2203 = nI hist.length ∧ hist.length ≤ 40 ∧ histF (fa f 23) hist.length ws hist ∧ slotF t sl f
/-! ## sets of links -/
def wtN (t : Net) (S : Nat) : Nat → Nat
  | 0 => 1
  | l + 1 => wtN t S l * (if S.testBit l then nRk t l else 10 - nRk t l)
def tollN (t : Net) (S : Nat) : Nat → Nat
  | 0 => 0
  | l + 1 => tollN t S l + (if S.testBit l then 10 - nRk t l else 0)
/-- the ways, of those below n, that have a link of S -/
def trN (t : Net) (ws : Wy) (S : Nat) : Nat → Nat
  | 0 => 0
  | k + 1 => trN t ws S k ||| (if wMask t ws k &&& S = 0 then 0 else 2 ^ k)
def trace (t : Net) (ws : Wy) (S : Nat) : Nat := trN t ws S ws.length
/-- the ways, of those below n, of an outcome -/
def outN (ws : Wy) (o : Nat) : Nat → Nat
  | 0 => 0
  | k + 1 => outN ws o k ||| (if wOut ws k = o then 2 ^ k else 0)
def outs (ws : Wy) (o : Nat) : Nat := outN ws o ws.length
/-- what some ways make of a set: of the known ones just the bad ones have a link of it -/
def fitsN (t : Net) (ws : Wy) (known bad S : Nat) : Bool := decide (trace t ws S &&& known = bad)
def explN (t : Net) (ws : Wy) (S : Nat) : Bool := fitsN t ws (outs ws 1 ||| outs ws 2) (outs ws 2) S
def RFtab (t : Net) (ws : Wy) (f : St) : Prop := ∀ S, S < 2 ^ nL t → fa f 42 S = nI (trace t ws S) ∧ fb f 43 S = lN (wtN t S (nL t)) ∧ fa f 44 S = nI (tollN t S (nL t))
