/-- the byte at a place; -1 behind the end -/
def nx (b : Nat → Int32) (n i : Nat) : Int32 := if i < n then b i else -1
abbrev Va : Type := (Nat → Int32) → Int32
abbrev Re : Type := Nat ⊕ (Nat × List Int32 × Va)
def lv (c : Int32) : Nat := if c = 124 then 0 else if c = 38 then 1 else if c = 60 ∨ c = 61 ∨ c = 62 then 2 else if c = 43 ∨ c = 45 then 3 else if c = 42 ∨ c = 47 ∨ c = 37 then 4 else 9
def op2 (c x y : Int32) : Int32 := if c = 124 then (if x = 0 ∧ y = 0 then 0 else 1) else if c = 38 then (if x = 0 ∨ y = 0 then 0 else 1) else if c = 60 then (if x < y then 1 else 0) else if c = 61 then (if x = y then 1 else 0) else if c = 62 then (if y < x then 1 else 0) else if c = 43 then x + y else if c = 45 then x - y else if c = 42 then x * y else if y = 0 then 0 else if c = 47 then x / y else x - x / y * y
def nmI (c : Int32) : Nat := if c = 111 then 0 else if c = 108 then 1 else if c = 99 then 2 else if c = 114 then 3 else if c = 116 then 4 else if c = 112 then 5 else 9
def dgt (c : Int32) : Bool := decide (48 ≤ c) && decide (c ≤ 57)
def sNum (b : Nat → Int32) (n : Nat) : Nat → Nat → Int32 → Nat × Int32
  | 0, i, v => (i, v)
  | k + 1, i, v => if dgt (nx b n i) then sNum b n k (i + 1) (v * 10 + nx b n i - 48) else (i, v)
def sAtom (b : Nat → Int32) (n i : Nat) : Re := if dgt (nx b n i) then .inr ((sNum b n 4 i 0).1, [256 + (sNum b n 4 i 0).2], fun _ => (sNum b n 4 i 0).2) else if nmI (nx b n i) < 6 then .inr (i + 1, [nI (nmI (nx b n i))], fun e => e (nmI (nx b n i))) else .inl i
def sLoop (b : Nat → Int32) (n : Nat) (sub : Nat → Re) (l : Nat) : Nat → Nat × List Int32 × Va → Re
  | 0, x => .inr x
  | k + 1, x => if lv (nx b n x.1) = l then (match sub (x.1 + 1) with
    | .inl f => .inl f
    | .inr y => sLoop b n sub l k (y.1, x.2.1 ++ y.2.1 ++ [nx b n x.1], fun e => op2 (nx b n x.1) (x.2.2 e) (y.2.2 e))) else .inr x
def sLv (b : Nat → Int32) (n : Nat) (sub : Nat → Re) (l k i : Nat) : Re := match sub i with
  | .inl f => .inl f
  | .inr x => sLoop b n sub l k x
/-- level 5 - m of the text, over operands o -/
def sL (b : Nat → Int32) (n : Nat) (o : Nat → Re) : Nat → Nat → Re
  | 0, i => o i
  | m + 1, i => sLv b n (sL b n o m) (4 - m) (if m = 2 then 1 else 120) i
def sOp (b : Nat → Int32) (n : Nat) : Nat → Nat → Re
  | 0, i => sAtom b n i
  | r + 1, i => if nx b n i = 40 then (match sL b n (sOp b n r) 5 (i + 1) with
    | .inl f => .inl f
    | .inr x => if nx b n x.1 = 41 then .inr (x.1 + 1, x.2) else .inl x.1)
    else if nx b n i = 33 ∨ nx b n i = 45 then (match sOp b n r (i + 1) with
    | .inl f => .inl f
    | .inr x => .inr (x.1, x.2.1 ++ [if nx b n i = 45 then 126 else nx b n i], fun e => if nx b n i = 45 then - x.2.2 e else if x.2.2 e = 0 then 1 else 0))
    else sAtom b n i
def sE (b : Nat → Int32) (n i : Nat) : Re := sL b n (sOp b n 6) 5 i
abbrev Li : Type := Option Va × Va
def sLine (b : Nat → Int32) (n i : Nat) : Nat ⊕ (Nat × List Int32 × Li) := match sE b n i with
  | .inl f => .inl f
  | .inr x => if nx b n x.1 = 63 then (match sE b n (x.1 + 1) with
    | .inl f => .inl f
    | .inr y => .inr (y.1, x.2.1 ++ [63] ++ y.2.1 ++ [59], some x.2.2, y.2.2)) else .inr (x.1, x.2.1 ++ [59], none, x.2.2)
def sLines (b : Nat → Int32) (n : Nat) : Nat → Nat × List Int32 × List Li → Nat ⊕ (Nat × List Int32 × List Li)
  | 0, x => .inr x
  | k + 1, x => if nx b n x.1 = 59 then (match sLine b n (x.1 + 1) with
    | .inl f => .inl f
    | .inr y => sLines b n k (y.1, x.2.1 ++ y.2.1, x.2.2 ++ [y.2.2])) else .inr x
def sText (b : Nat → Int32) (n : Nat) : Nat ⊕ (List Int32 × List Li) := match sLine b n 0 with
  | .inl f => .inl f
  | .inr y => (match sLines b n 120 (y.1, y.2.1, [y.2.2]) with
    | .inl f => .inl f
    | .inr z => if z.1 < n then .inl z.1 else .inr (z.2.1, z.2.2))
/-- the value of a text: of its first line that counts -/
def tvl (e : Nat → Int32) : List Li → Int32
  | [] => 0
  | l :: r => (match l.1 with
    | none => l.2 e
    | some c => if c e = 0 then tvl e r else l.2 e)
