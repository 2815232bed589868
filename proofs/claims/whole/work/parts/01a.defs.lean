abbrev St : Type := (Nat → Nat → Int32) × (Nat → Nat → Int64)
def gi (S : St) (v i : Nat) : Int32 := S.1 v i
def gl (S : St) (v i : Nat) : Int64 := S.2 v i
def si (S : St) (v i : Nat) (x : Int32) : St := (fun w => if w = v then upd (S.1 v) i x else S.1 w, S.2)
def sl (S : St) (v i : Nat) (x : Int64) : St := (S.1, fun w => if w = v then vp_updL (S.2 v) i x else S.2 w)
def cpi (S : St) (v0 v1 : Nat) (sp dp n : Nat) : St := (fun w => if w = v1 then va_cpy (S.1 v0) (S.1 v1) sp dp n else S.1 w, S.2)
def cpl (S : St) (v0 v1 : Nat) (sp dp n : Nat) : St := (S.1, fun w => if w = v1 then va_cpy (S.2 v0) (S.2 v1) sp dp n else S.2 w)
def nm {α β : Type} (x : α) (f : α → β) : β := f x
def ck {ρ : Type} (b : Bool) (a : Option ρ) : Option ρ := if b = true then a else none
def bd1 {α ρ : Type} (x : Option α) (g : α → Option ρ) : Option ρ := match x with
  | none => none
  | some u => g u
def bd2 {α β ρ : Type} (x : Option (α × β)) (g : α → β → Option ρ) : Option ρ := match x with
  | none => none
  | some u => g u.1 u.2
def lp {α ρ : Type} (b : (α → Option ρ) → α → Option ρ) : Nat → α → Option ρ
  | 0, _ => none
  | n + 1, x => b (lp b n) x
def inb (i : Int32) (n : Nat) : Bool := decide (¬ (i < 0 ∨ n ≤ i.toNatClampNeg))
def isB (x : Int32) : Bool := decide (x = 0 ∨ x = 1)
def nz (x : Int32) : Bool := decide (¬ x = 0)
def tblA (j : Nat) : Int32 := ([-1, 0, 0, 2, 1, 3, 0, 4] : List Int32).getD j 0
def tblO (j : Nat) : Int32 := ([1, 10, 11, 2, 20, 0, 0, 0, 0, 30, 0, 0, 0, 41, 40, 0, 0, 0, 50, 0, 0, 0, 0, 60, 70, 0, 0, 0, 0, 80, 0, 81] : List Int32).getD j 0
def isI (k : Nat) : Bool := [11, 12, 13, 14, 15, 16, 17, 18, 19, 20, 21, 22, 23, 24, 25, 26, 27, 31, 32, 33, 34, 35, 36, 37, 38, 39, 40, 41, 42].contains k
def lenI (k : Nat) : Nat := [0, 0, 0, 0, 0, 0, 0, 0, 0, 0, 0, 6, 6, 6, 10, 10, 10, 10, 10, 10, 120, 121, 121, 122, 6, 101, 100, 10, 1024, 60, 60, 5, 5, 10, 40, 40, 40, 40, 24, 50, 6, 6, 6, 360].getD k 0
def isL (k : Nat) : Bool := [43].contains k
def lenL (k : Nat) : Nat := 360
def cpok (sp dp n : Int32) (n0 n1 : Nat) : Bool := decide (¬ sp < 0 ∧ ¬ dp < 0 ∧ ¬ n < 0 ∧ sp.toNatClampNeg + n.toNatClampNeg ≤ n0 ∧ dp.toNatClampNeg + n.toNatClampNeg ≤ n1)
def Cg_dropOldest (S : St) : Option St :=
  ck (cpok (1 : Int32) (0 : Int32) (39 : Int32) 40 40) <|
  nm (cpi S 34 34 (1 : Int32).toNatClampNeg (0 : Int32).toNatClampNeg (39 : Int32).toNatClampNeg) fun S1 =>
  ck (cpok (1 : Int32) (0 : Int32) (39 : Int32) 40 40) <|
  nm (cpi S1 35 35 (1 : Int32).toNatClampNeg (0 : Int32).toNatClampNeg (39 : Int32).toNatClampNeg) fun S2 =>
  ck (cpok (1 : Int32) (0 : Int32) (39 : Int32) 40 40) <|
  nm (cpi S2 36 36 (1 : Int32).toNatClampNeg (0 : Int32).toNatClampNeg (39 : Int32).toNatClampNeg) fun S3 =>
  ck (cpok (1 : Int32) (0 : Int32) (39 : Int32) 40 40) <|
  nm (cpi S3 37 37 (1 : Int32).toNatClampNeg (0 : Int32).toNatClampNeg (39 : Int32).toNatClampNeg) fun S4 =>
  nm (si S4 8 0 ((gi S4 8 0) - (1 : Int32))) fun S5 =>
  some S5
def Cg_add_b13 (S : St) (l1 : Int32) (l2 : Int32) (l3 : Int32) (l4 : Int32) : Option St :=
  ck (inb (gi S 8 0) 40) <|
  nm (si S 34 (gi S 8 0).toNatClampNeg l1) fun S1 =>
  ck (inb (gi S1 8 0) 40) <|
  nm (si S1 35 (gi S1 8 0).toNatClampNeg l2) fun S2 =>
  ck (inb (gi S2 8 0) 40) <|
  nm (si S2 36 (gi S2 8 0).toNatClampNeg l3) fun S3 =>
  ck (inb (gi S3 8 0) 40) <|
  nm (si S3 37 (gi S3 8 0).toNatClampNeg l4) fun S4 =>
  nm (si S4 8 0 ((gi S4 8 0) + (1 : Int32))) fun S5 =>
  nm (si S5 8 1 (gi S5 8 0)) fun S6 =>
  some S6
def Cg_add (S : St) (p1 : Int32) (p2 : Int32) (p3 : Int32) (p4 : Int32) : Option St :=
  if (gi S 8 0) = (40 : Int32) then
    bd1 (Cg_dropOldest S) fun S1 =>
    Cg_add_b13 S1 p1 p2 p3 p4
  else
    Cg_add_b13 S p1 p2 p3 p4
def Sm_rowOf (S : St) (p1 : Int32) : Option Nat :=
  if p1 = 0 then
    some 11
  else
  if p1 = 1 then
    some 12
  else
  if p1 = 2 then
    some 13
  else
  if p1 = 3 then
    some 16
  else
  if p1 = 4 then
    some 17
  else
  if p1 = 5 then
    some 18
  else
  if p1 = 6 then
    some 19
  else
  if p1 = 7 then
    some 14
  else
  some 15
def Sm_become (S : St) (p1 : Int32) (p2 : Int32) (p3 : Int32) : Option St :=
  bd1 (Sm_rowOf S p2) fun r1 =>
  ck (isI r1) <| ck (inb p1 (lenI r1)) <|
  nm (si S r1 p1.toNatClampNeg p3) fun S2 =>
  some S2
def Cg_stepBack (S : St) : Option St :=
  nm (si S 8 0 ((gi S 8 0) - (1 : Int32))) fun S1 =>
  ck (inb (gi S1 8 0) 40) <|
  ck (inb (gi S1 8 0) 40) <|
  ck (inb (gi S1 8 0) 40) <|
  bd1 (Sm_become S1 (gi S1 34 (gi S1 8 0).toNatClampNeg) (gi S1 35 (gi S1 8 0).toNatClampNeg) (gi S1 36 (gi S1 8 0).toNatClampNeg)) fun S2 =>
  some S2
def Cg_stepForward (S : St) : Option St :=
  ck (inb (gi S 8 0) 40) <|
  ck (inb (gi S 8 0) 40) <|
  ck (inb (gi S 8 0) 40) <|
  bd1 (Sm_become S (gi S 34 (gi S 8 0).toNatClampNeg) (gi S 35 (gi S 8 0).toNatClampNeg) (gi S 37 (gi S 8 0).toNatClampNeg)) fun S1 =>
  nm (si S1 8 0 ((gi S1 8 0) + (1 : Int32))) fun S2 =>
  some S2
def Ma_max (S : St) (p1 : Int32) (p2 : Int32) : Option Int32 :=
  if p1 < p2 then
    some p2
  else
    some p1
def Ma_min (S : St) (p1 : Int32) (p2 : Int32) : Option Int32 :=
  if p2 < p1 then
    some p2
  else
    some p1
def La_hasText (S : St) : Option Int32 :=
  if (gi S 2 6) ≤ 0 then
    some (0 : Int32)
  else
    some (1 : Int32)
def La_lineEndFrom_b2 (N : Nat) (k2 : (Int32) → Option Int32) (S : St) (l2 : Int32) : Option Int32 :=
  if (gi S 2 6) ≤ l2 then
    some l2
  else
    ck (inb l2 121) <|
    if (gi S 21 l2.toNatClampNeg) = (59 : Int32) then
      some l2
    else
      nm (l2 + (1)) fun x1 =>
      k2 (x1)
def La_lineEndFrom_L2 (N : Nat) (S : St) : (Int32) → Option Int32 :=
  lp (fun k x => La_lineEndFrom_b2 N k S x) N
def La_lineEndFrom (N : Nat) (S : St) (p1 : Int32) : Option Int32 :=
  La_lineEndFrom_L2 N S (p1)
def La_levelOf (S : St) (p1 : Int32) : Option Int32 :=
  if p1 = 37 then
    some (4 : Int32)
  else
  if p1 = 38 then
    some (1 : Int32)
  else
  if p1 = 42 then
    some (4 : Int32)
  else
  if p1 = 43 then
    some (3 : Int32)
  else
  if p1 = 45 then
    some (3 : Int32)
  else
  if p1 = 47 then
    some (4 : Int32)
  else
  if p1 = 60 then
    some (2 : Int32)
  else
  if p1 = 61 then
    some (2 : Int32)
  else
  if p1 = 62 then
    some (2 : Int32)
  else
  if p1 = 124 then
    some (0 : Int32)
  else
  some (-1 : Int32)
def La_operandsOf (S : St) (p1 : Int32) : Option Int32 :=
  if p1 = (33 : Int32) then
    some (1 : Int32)
  else
    if p1 = (126 : Int32) then
      some (1 : Int32)
    else
      bd1 (La_levelOf S p1) fun r1 =>
      if r1 < 0 then
        some (0 : Int32)
      else
        some (2 : Int32)
def La_result_b33 (S : St) (l1 : Int32) (l2 : Int32) (l3 : Int32) : Option Int32 :=
  if l1 = 33 then
    if l2 = 0 then
      some (1 : Int32)
    else
      some (0 : Int32)
  else
  if l1 = 37 then
    if l3 = 0 then
      some (0 : Int32)
    else
      ck (nz l3) <|
      some (l2 - l2 / l3 * l3)
  else
  if l1 = 38 then
    if l2 = 0 then
      some (0 : Int32)
    else
      if l3 = 0 then
        some (0 : Int32)
      else
        some (1 : Int32)
  else
  if l1 = 42 then
    some (l2 * l3)
  else
  if l1 = 43 then
    some (l2 + l3)
  else
  if l1 = 45 then
    some (l2 - l3)
  else
  if l1 = 47 then
    if l3 = 0 then
      some (0 : Int32)
    else
      ck (nz l3) <|
      some (l2 / l3)
  else
  if l1 = 60 then
    if l3 ≤ l2 then
      some (0 : Int32)
    else
      some (1 : Int32)
  else
  if l1 = 61 then
    if l2 = l3 then
      some (1 : Int32)
    else
      some (0 : Int32)
  else
  if l1 = 62 then
    if l2 ≤ l3 then
      some (0 : Int32)
    else
      some (1 : Int32)
  else
  if l1 = 124 then
    if l2 = 0 then
      if l3 = 0 then
        some (0 : Int32)
      else
        some (1 : Int32)
    else
      some (1 : Int32)
  else
  if l1 = 126 then
    some (-l2)
  else
  some (0 : Int32)
def La_result (S : St) (p1 : Int32) (p2 : Int32) (p3 : Int32) : Option Int32 :=
  if p1 < (256 : Int32) then
    if p1 < 0 then
      La_result_b33 S p1 p2 p3
    else
      if (6 : Int32) ≤ p1 then
        La_result_b33 S p1 p2 p3
      else
        ck (inb p1 6) <|
        some (gi S 24 p1.toNatClampNeg)
  else
    some (p1 - (256 : Int32))
def La_tell (S : St) (p1 : Int32) (p2 : Int32) (p3 : Int32) (p4 : Int32) (p5 : Int32) (p6 : Int32) : Option St :=
  nm (si S 24 (0 : Int32).toNatClampNeg p1) fun S1 =>
  nm (si S1 24 (1 : Int32).toNatClampNeg p2) fun S2 =>
  nm (si S2 24 (2 : Int32).toNatClampNeg p3) fun S3 =>
  nm (si S3 24 (3 : Int32).toNatClampNeg p4) fun S4 =>
  nm (si S4 24 (4 : Int32).toNatClampNeg p5) fun S5 =>
  nm (si S5 24 (5 : Int32).toNatClampNeg p6) fun S6 =>
  some S6
def La_valueFor_b78 (N : Nat) (k19 : (St × Int32 × Int32) → Option (Int32 × St)) (S : St) (s0 : Int32) : Option (Int32 × St) :=
  nm (s0 + (1)) fun x1 =>
  k19 (S, (0 : Int32), x1)
def La_valueFor_b19 (N : Nat) (k19 : (St × Int32 × Int32) → Option (Int32 × St)) (S : St) (l7 : Int32) (l8 : Int32) : Option (Int32 × St) :=
  if (gi S 2 6) ≤ l8 then
    some ((0 : Int32), S)
  else
    ck (inb l8 121) <|
    nm ((gi S 21 l8.toNatClampNeg)) fun x1 =>
    if x1 = (59 : Int32) then
      some ((gi S 23 (0 : Int32).toNatClampNeg), S)
    else
      if x1 = (63 : Int32) then
        if (gi S 23 (0 : Int32).toNatClampNeg) = 0 then
          bd1 (La_lineEndFrom N S l8) fun r8 =>
          La_valueFor_b78 N k19 S r8
        else
          La_valueFor_b78 N k19 S l8
      else
        bd1 (La_operandsOf S x1) fun r2 =>
        bd1 (Ma_max S (0 : Int32) (l7 - r2)) fun r3 =>
        ck (inb r3 122) <|
        ck (inb (r3 + (1 : Int32)) 122) <|
        bd1 (La_result S x1 (gi S 23 r3.toNatClampNeg) (gi S 23 (r3 + (1 : Int32)).toNatClampNeg)) fun r4 =>
        ck (inb r3 122) <|
        nm (si S 23 r3.toNatClampNeg r4) fun S5 =>
        bd1 (Ma_min S5 (r3 + (1 : Int32)) (120 : Int32)) fun r6 =>
        nm (l8 + (1)) fun x7 =>
        k19 (S5, r6, x7)
def La_valueFor_L19 (N : Nat) : (St × Int32 × Int32) → Option (Int32 × St) :=
  lp (fun k x => La_valueFor_b19 N k x.1 x.2.1 x.2.2) N
def La_valueFor (N : Nat) (S : St) (p1 : Int32) (p2 : Int32) (p3 : Int32) (p4 : Int32) (p5 : Int32) (p6 : Int32) : Option (Int32 × St) :=
  bd1 (La_tell S p1 p2 p3 p4 p5 p6) fun S1 =>
  La_valueFor_L19 N (S1, (0 : Int32), (0 : Int32))
def Sm_isOpen (S : St) (p1 : Int32) (p2 : Int32) : Option Int32 :=
  ck (inb p1 10) <|
  if p2 < (gi S 15 p1.toNatClampNeg) then
    some (0 : Int32)
  else
    ck (inb p1 10) <|
    if (gi S 18 p1.toNatClampNeg) = (-1 : Int32) then
      some (1 : Int32)
    else
      ck (inb p1 10) <|
      if (gi S 18 p1.toNatClampNeg) ≤ p2 then
        some (0 : Int32)
      else
        some (1 : Int32)
def Sm_isOverDue (S : St) (p1 : Int32) (p2 : Int32) : Option Int32 :=
  bd1 (Sm_isOpen S p1 p2) fun r1 =>
  if r1 = 0 then
    some (0 : Int32)
  else
    ck (inb p1 10) <|
    if p2 ≤ (gi S 16 p1.toNatClampNeg) then
      some (0 : Int32)
    else
      some (1 : Int32)
def Sm_isTied (S : St) (p1 : Int32) : Option Int32 :=
  ck (inb p1 10) <|
  if (gi S 19 p1.toNatClampNeg) = (-1 : Int32) then
    some (0 : Int32)
  else
    some (1 : Int32)
def Sm_concerns (S : St) (p1 : Int32) (p2 : Int32) : Option Int32 :=
  ck (inb p1 10) <|
  if (gi S 14 p1.toNatClampNeg) = p2 then
    some (1 : Int32)
  else
    ck (inb p1 10) <|
    if (gi S 19 p1.toNatClampNeg) = p2 then
      some (1 : Int32)
    else
      some (0 : Int32)
def Sm_lengthOn_b10 (N : Nat) (k10 : (Int32 × Int32) → Option Int32) (S : St) (l1 : Int32) (l2 : Int32) (l3 : Int32) (l4 : Int32) : Option Int32 :=
  if (gi S 1 10) ≤ l4 then
    some l3
  else
    bd1 (Sm_concerns S l4 l1) fun r1 =>
    if r1 = 0 then
      nm (l4 + (1)) fun x2 =>
      k10 (l3, x2)
    else
      bd1 (Sm_isOpen S l4 l2) fun r3 =>
      if r3 = 0 then
        nm (l4 + (1)) fun x4 =>
        k10 (l3, x4)
      else
        ck (inb l4 10) <|
        nm ((l3 + (gi S 17 l4.toNatClampNeg))) fun x5 =>
        nm (l4 + (1)) fun x6 =>
        k10 (x5, x6)
def Sm_lengthOn_L10 (N : Nat) (S : St) (l1 : Int32) (l2 : Int32) : (Int32 × Int32) → Option Int32 :=
  lp (fun k x => Sm_lengthOn_b10 N k S l1 l2 x.1 x.2) N
def Sm_lengthOn (N : Nat) (S : St) (p1 : Int32) (p2 : Int32) : Option Int32 :=
  ck (inb p1 6) <|
  nm ((gi S 11 p1.toNatClampNeg)) fun x1 =>
  Sm_lengthOn_L10 N S p1 p2 (x1, (0 : Int32))
def Cr_ofPromise_b116 (N : Nat) (S : St) (l4 : Int32) : Option (Int32 × St) :=
  bd1 (Ma_min S (99 : Int32) l4) fun r1 =>
  bd1 (Ma_max S (0 : Int32) r1) fun r2 =>
  some (r2, S)
def Cr_ofPromise (N : Nat) (S : St) (p1 : Int32) (p2 : Int32) : Option (Int32 × St) :=
  bd1 (Sm_isOverDue S p1 p2) fun r1 =>
  if r1 = 0 then
    some ((0 : Int32), S)
  else
    ck (inb p1 10) <|
    nm ((p2 - (gi S 16 p1.toNatClampNeg))) fun x2 =>
    ck (inb p1 10) <|
    nm ((x2 + (gi S 17 p1.toNatClampNeg))) fun x3 =>
    bd1 (La_hasText S) fun r4 =>
    if r4 = 0 then
      Cr_ofPromise_b116 N S x3
    else
      ck (inb p1 10) <|
      nm ((gi S 14 p1.toNatClampNeg)) fun x5 =>
      ck (inb p1 10) <|
      bd1 (Sm_lengthOn N S x5 p2) fun r6 =>
      ck (inb x5 6) <|
      bd1 (Sm_isTied S p1) fun r7 =>
      if r7 = 0 then
        bd2 (La_valueFor N S x2 (gi S 17 p1.toNatClampNeg) r6 (gi S 12 x5.toNatClampNeg) (0 : Int32) p1) fun r9 S8 =>
        Cr_ofPromise_b116 N S8 r9
      else
        bd2 (La_valueFor N S x2 (gi S 17 p1.toNatClampNeg) r6 (gi S 12 x5.toNatClampNeg) (1 : Int32) p1) fun r11 S10 =>
        Cr_ofPromise_b116 N S10 r11
def Cr_ofOne_b5 (N : Nat) (k5 : (St × Int32 × Int32) → Option (Int32 × St)) (S : St) (l1 : Int32) (l2 : Int32) (l3 : Int32) (l4 : Int32) : Option (Int32 × St) :=
  if (gi S 1 10) ≤ l4 then
    some (l3, S)
  else
    bd1 (Sm_concerns S l4 l1) fun r1 =>
    if r1 = 0 then
      nm (l4 + (1)) fun x2 =>
      k5 (S, l3, x2)
    else
      bd2 (Cr_ofPromise N S l4 l2) fun r4 S3 =>
      nm ((l3 + r4)) fun x5 =>
      nm (l4 + (1)) fun x6 =>
      k5 (S3, x5, x6)
def Cr_ofOne_L5 (N : Nat) (l1 : Int32) (l2 : Int32) : (St × Int32 × Int32) → Option (Int32 × St) :=
  lp (fun k x => Cr_ofOne_b5 N k x.1 l1 l2 x.2.1 x.2.2) N
def Cr_ofOne (N : Nat) (S : St) (p1 : Int32) (p2 : Int32) : Option (Int32 × St) :=
  Cr_ofOne_L5 N p1 p2 (S, (0 : Int32), (0 : Int32))
def Cr_ofAll_b4 (N : Nat) (k4 : (St × Int32 × Int32) → Option (Int32 × St)) (S : St) (l1 : Int32) (l2 : Int32) (l3 : Int32) : Option (Int32 × St) :=
  if (gi S 1 10) ≤ l3 then
    some (l2, S)
  else
    bd2 (Cr_ofPromise N S l3 l1) fun r2 S1 =>
    nm ((l2 + r2)) fun x3 =>
    nm (l3 + (1)) fun x4 =>
    k4 (S1, x3, x4)
def Cr_ofAll_L4 (N : Nat) (l1 : Int32) : (St × Int32 × Int32) → Option (Int32 × St) :=
  lp (fun k x => Cr_ofAll_b4 N k x.1 l1 x.2.1 x.2.2) N
def Cr_ofAll (N : Nat) (S : St) (p1 : Int32) : Option (Int32 × St) :=
  Cr_ofAll_L4 N p1 (S, (0 : Int32), (0 : Int32))
def Cr_loudestDay_b6 (N : Nat) (k6 : (St × Int32 × Int32 × Int32) → Option (Int32 × St)) (S : St) (l1 : Int32) (l2 : Int32) (l3 : Int32) : Option (Int32 × St) :=
  if (100 : Int32) ≤ l3 then
    some (l1, S)
  else
    bd2 (Cr_ofAll N S l3) fun r2 S1 =>
    if r2 ≤ l2 then
      nm (l3 + (1)) fun x3 =>
      k6 (S1, l1, l2, x3)
    else
      nm (l3 + (1)) fun x4 =>
      k6 (S1, l3, r2, x4)
def Cr_loudestDay_L6 (N : Nat) : (St × Int32 × Int32 × Int32) → Option (Int32 × St) :=
  lp (fun k x => Cr_loudestDay_b6 N k x.1 x.2.1 x.2.2.1 x.2.2.2) N
def Cr_loudestDay (N : Nat) (S : St) : Option (Int32 × St) :=
  Cr_loudestDay_L6 N (S, (0 : Int32), (0 : Int32), (0 : Int32))
def Cr_debtOf_b5 (N : Nat) (k5 : (Int32 × Int32) → Option Int32) (S : St) (l1 : Int32) (l2 : Int32) (l3 : Int32) (l4 : Int32) : Option Int32 :=
  if (gi S 1 10) ≤ l4 then
    some l3
  else
    bd1 (Sm_concerns S l4 l1) fun r1 =>
    if r1 = 0 then
      nm (l4 + (1)) fun x2 =>
      k5 (l3, x2)
    else
      bd1 (Sm_isOverDue S l4 l2) fun r3 =>
      if r3 = 0 then
        nm (l4 + (1)) fun x4 =>
        k5 (l3, x4)
      else
        ck (inb l4 10) <|
        nm ((l3 + (gi S 17 l4.toNatClampNeg))) fun x5 =>
        nm (l4 + (1)) fun x6 =>
        k5 (x5, x6)
def Cr_debtOf_L5 (N : Nat) (S : St) (l1 : Int32) (l2 : Int32) : (Int32 × Int32) → Option Int32 :=
  lp (fun k x => Cr_debtOf_b5 N k S l1 l2 x.1 x.2) N
def Cr_debtOf (N : Nat) (S : St) (p1 : Int32) (p2 : Int32) : Option Int32 :=
  Cr_debtOf_L5 N S p1 p2 ((0 : Int32), (0 : Int32))
def Ch_within (S : St) (p1 : Int32) (p2 : Int32) (p3 : Int32) : Option Int32 :=
  if p1 < p2 then
    some (0 : Int32)
  else
    if p3 < p1 then
      some (0 : Int32)
    else
      some (1 : Int32)
def Ch_isDay (S : St) (p1 : Int32) : Option Int32 :=
  bd1 (Ch_within S p1 (0 : Int32) (99 : Int32)) fun r1 =>
  ck (isB r1) <|
  some r1
def Sh_elementAt (S : St) (p1 : Int32) (p2 : Int32) : Option Int64 :=
  ck (inb ((p1 * (60 : Int32)) + p2) 360) <|
  some (gl S 43 ((p1 * (60 : Int32)) + p2).toNatClampNeg)
def Cr_firstWrongDay_b2 (N : Nat) (k2 : (St × Int32) → Option (Int32 × St)) (S : St) (l1 : Int32) (l2 : Int32) (l3 : Int32) : Option (Int32 × St) :=
  ck (inb l1 6) <|
  if (gi S 40 l1.toNatClampNeg) ≤ l3 then
    some ((-2 : Int32), S)
  else
    bd1 (Ch_isDay S l3) fun r1 =>
    if r1 = 0 then
      some (l3, S)
    else
      bd1 (Sh_elementAt S l1 l3) fun r2 =>
      bd2 (Cr_ofOne N S l2 l3) fun r4 S3 =>
      if (lg_cmp r2 (Int32.toInt64 r4)) = 0 then
        nm (l3 + (1)) fun x5 =>
        k2 (S3, x5)
      else
        some (l3, S3)
def Cr_firstWrongDay_L2 (N : Nat) (l1 : Int32) (l2 : Int32) : (St × Int32) → Option (Int32 × St) :=
  lp (fun k x => Cr_firstWrongDay_b2 N k x.1 l1 l2 x.2) N
def Cr_firstWrongDay (N : Nat) (S : St) (p1 : Int32) (p2 : Int32) : Option (Int32 × St) :=
  Cr_firstWrongDay_L2 N p1 p2 (S, (0 : Int32))
def Cr_ownersOf_b4 (N : Nat) (k4 : (St × Int32 × Int32) → Option (Int32 × St)) (S : St) (l1 : Int32) (l2 : Int32) (l3 : Int32) : Option (Int32 × St) :=
  if (gi S 1 9) ≤ l3 then
    some (l2, S)
  else
    bd2 (Cr_firstWrongDay N S l1 l3) fun r2 S1 =>
    if r2 = (-2 : Int32) then
      nm ((l2 ||| ((1 : Int32) <<< (l3 &&& 31)))) fun x4 =>
      nm (l3 + (1)) fun x5 =>
      k4 (S1, x4, x5)
    else
      nm (l3 + (1)) fun x3 =>
      k4 (S1, l2, x3)
def Cr_ownersOf_L4 (N : Nat) (l1 : Int32) : (St × Int32 × Int32) → Option (Int32 × St) :=
  lp (fun k x => Cr_ownersOf_b4 N k x.1 l1 x.2.1 x.2.2) N
def Cr_ownersOf (N : Nat) (S : St) (p1 : Int32) : Option (Int32 × St) :=
  Cr_ownersOf_L4 N p1 (S, (0 : Int32), (0 : Int32))
def Cr_compareOpenAndKept_b71 (N : Nat) (k14 : (St × Int32) → Option St) (S : St) (l1 : Int32) (l2 : Int32) (l3 : Int32) (l4 : Int32) (l5 : Int32) (s0 : Int32) (s1 : Int32) : Option St :=
  ck (inb s1 60) <|
  ck (isB s0) <|
  nm (si S 29 s1.toNatClampNeg s0) fun S1 =>
  ck (inb l2 10) <|
  nm (si S1 18 l2.toNatClampNeg l5) fun S2 =>
  bd1 (Sh_elementAt S2 l1 l5) fun r3 =>
  bd2 (Cr_ofOne N S2 l3 l5) fun r5 S4 =>
  if (lg_cmp r3 (Int32.toInt64 r5)) = 0 then
    ck (inb l5 60) <|
    nm (si S4 30 l5.toNatClampNeg (1 : Int32)) fun S8 =>
    nm (l5 + (1)) fun x9 =>
    k14 (S8, x9)
  else
    ck (inb l5 60) <|
    nm (si S4 30 l5.toNatClampNeg (0 : Int32)) fun S6 =>
    nm (l5 + (1)) fun x7 =>
    k14 (S6, x7)
def Cr_compareOpenAndKept_b14 (N : Nat) (k14 : (St × Int32) → Option St) (S : St) (l1 : Int32) (l2 : Int32) (l3 : Int32) (l4 : Int32) (l5 : Int32) : Option St :=
  ck (inb l1 6) <|
  if (gi S 40 l1.toNatClampNeg) ≤ l5 then
    ck (inb l2 10) <|
    nm (si S 18 l2.toNatClampNeg l4) fun S1 =>
    some S1
  else
    ck (inb l2 10) <|
    nm (si S 18 l2.toNatClampNeg (-1 : Int32)) fun S2 =>
    bd1 (Sh_elementAt S2 l1 l5) fun r3 =>
    bd2 (Cr_ofOne N S2 l3 l5) fun r5 S4 =>
    if (lg_cmp r3 (Int32.toInt64 r5)) = 0 then
      Cr_compareOpenAndKept_b71 N k14 S4 l1 l2 l3 l4 l5 (1 : Int32) l5
    else
      Cr_compareOpenAndKept_b71 N k14 S4 l1 l2 l3 l4 l5 (0 : Int32) l5
def Cr_compareOpenAndKept_L14 (N : Nat) (l1 : Int32) (l2 : Int32) (l3 : Int32) (l4 : Int32) : (St × Int32) → Option St :=
  lp (fun k x => Cr_compareOpenAndKept_b14 N k x.1 l1 l2 l3 l4 x.2) N
def Cr_compareOpenAndKept (N : Nat) (S : St) (p1 : Int32) (p2 : Int32) (p3 : Int32) : Option St :=
  ck (inb p2 10) <|
  nm ((gi S 18 p2.toNatClampNeg)) fun x1 =>
  Cr_compareOpenAndKept_L14 N p1 p2 p3 x1 (S, (0 : Int32))
def Cr_isSoIfKeptOn_b30 (N : Nat) (k2 : (Int32) → Option Int32) (S : St) (l1 : Int32) (l2 : Int32) (l3 : Int32) (s0 : Int32) : Option Int32 :=
  if s0 = 0 then
    ck (inb l3 60) <|
    if (gi S 30 l3.toNatClampNeg) = 0 then
      some (0 : Int32)
    else
      nm (l3 + (1)) fun x1 =>
      k2 (x1)
  else
    ck (inb l3 60) <|
    if (gi S 29 l3.toNatClampNeg) = 0 then
      some (0 : Int32)
    else
      nm (l3 + (1)) fun x2 =>
      k2 (x2)
def Cr_isSoIfKeptOn_b2 (N : Nat) (k2 : (Int32) → Option Int32) (S : St) (l1 : Int32) (l2 : Int32) (l3 : Int32) : Option Int32 :=
  ck (inb l2 6) <|
  if (gi S 40 l2.toNatClampNeg) ≤ l3 then
    some (1 : Int32)
  else
    if l1 = (-1 : Int32) then
      Cr_isSoIfKeptOn_b30 N k2 S l1 l2 l3 (1 : Int32)
    else
      if l1 ≤ l3 then
        Cr_isSoIfKeptOn_b30 N k2 S l1 l2 l3 (0 : Int32)
      else
        Cr_isSoIfKeptOn_b30 N k2 S l1 l2 l3 (1 : Int32)
def Cr_isSoIfKeptOn_L2 (N : Nat) (S : St) (l1 : Int32) (l2 : Int32) : (Int32) → Option Int32 :=
  lp (fun k x => Cr_isSoIfKeptOn_b2 N k S l1 l2 x) N
def Cr_isSoIfKeptOn (N : Nat) (S : St) (p1 : Int32) (p2 : Int32) : Option Int32 :=
  Cr_isSoIfKeptOn_L2 N S p1 p2 ((0 : Int32))
def Cr_howManyKepts_b4 (N : Nat) (k4 : (Int32 × Int32) → Option Int32) (S : St) (l1 : Int32) (l2 : Int32) (l3 : Int32) : Option Int32 :=
  if (100 : Int32) ≤ l3 then
    some l2
  else
    bd1 (Cr_isSoIfKeptOn N S l3 l1) fun r1 =>
    if r1 = 0 then
      nm (l3 + (1)) fun x2 =>
      k4 (l2, x2)
    else
      nm (l2 + (1)) fun x3 =>
      nm (l3 + (1)) fun x4 =>
      k4 (x3, x4)
def Cr_howManyKepts_L4 (N : Nat) (S : St) (l1 : Int32) : (Int32 × Int32) → Option Int32 :=
  lp (fun k x => Cr_howManyKepts_b4 N k S l1 x.1 x.2) N
def Cr_howManyKepts (N : Nat) (S : St) (p1 : Int32) : Option Int32 :=
  Cr_howManyKepts_L4 N S p1 ((0 : Int32), (-1 : Int32))
def Cr_leastKept_b2 (N : Nat) (k2 : (Int32) → Option Int32) (S : St) (l1 : Int32) (l2 : Int32) : Option Int32 :=
  if (100 : Int32) ≤ l2 then
    some (-9 : Int32)
  else
    bd1 (Cr_isSoIfKeptOn N S l2 l1) fun r1 =>
    if r1 = 0 then
      nm (l2 + (1)) fun x2 =>
      k2 (x2)
    else
      some l2
def Cr_leastKept_L2 (N : Nat) (S : St) (l1 : Int32) : (Int32) → Option Int32 :=
  lp (fun k x => Cr_leastKept_b2 N k S l1 x) N
def Cr_leastKept (N : Nat) (S : St) (p1 : Int32) : Option Int32 :=
  Cr_leastKept_L2 N S p1 ((-1 : Int32))
def Ar_fill_53178_b5 (N : Nat) (k5 : (St × Int32) → Option St) (S : St) (l0 : Nat) (l1 : Int32) (l3 : Int32) (l2 : Int32) : Option St :=
  if l3 ≤ l2 then
    some S
  else
    ck (isI l0) <| ck (inb l2 (lenI l0)) <|
    nm (si S l0 l2.toNatClampNeg l1) fun S1 =>
    nm (l2 + (1)) fun x2 =>
    k5 (S1, x2)
def Ar_fill_53178_L5 (N : Nat) (l0 : Nat) (l1 : Int32) (l3 : Int32) : (St × Int32) → Option St :=
  lp (fun k x => Ar_fill_53178_b5 N k x.1 l0 l1 l3 x.2) N
def Ar_fill_53178 (N : Nat) (S : St) (p1 : Nat) (p2 : Int32) : Option St :=
  ck (isI p1) <|
  nm ((Int32.ofNat (lenI p1))) fun x1 =>
  Ar_fill_53178_L5 N p1 p2 x1 (S, (0 : Int32))
def Dy_layOut_b132 (N : Nat) (k132 : (St × Int32) → Option St) (S : St) (l3 : Int32) : Option St :=
  if (100 : Int32) ≤ l3 then
    some S
  else
    ck (inb l3 101) <|
    ck (inb (l3 - (1 : Int32)) 101) <|
    ck (inb l3 101) <|
    nm (si S 25 l3.toNatClampNeg ((gi S 25 l3.toNatClampNeg) + (gi S 25 (l3 - (1 : Int32)).toNatClampNeg))) fun S1 =>
    nm (l3 + (1)) fun x2 =>
    k132 (S1, x2)
def Dy_layOut_L132 (N : Nat) : (St × Int32) → Option St :=
  lp (fun k x => Dy_layOut_b132 N k x.1 x.2) N
def Dy_layOut_b51 (N : Nat) (k25 : (St × Int32) → Option St) (S : St) (l1 : Int32) (l2 : Nat) (l3 : Int32) (s0 : Int32) : Option St :=
  bd1 (Sm_concerns S l3 l1) fun r1 =>
  if r1 = 0 then
    nm (l3 + (1)) fun x2 =>
    k25 (S, x2)
  else
    ck (inb l3 10) <|
    if s0 ≤ (gi S 15 l3.toNatClampNeg) then
      nm (l3 + (1)) fun x3 =>
      k25 (S, x3)
    else
      ck (inb l3 10) <|
      ck (inb (gi S 15 l3.toNatClampNeg) 101) <|
      ck (inb l3 10) <|
      ck (inb (gi S 15 l3.toNatClampNeg) 101) <|
      nm (si S 25 (gi S 15 l3.toNatClampNeg).toNatClampNeg ((gi S 25 (gi S 15 l3.toNatClampNeg).toNatClampNeg) + (gi S 17 l3.toNatClampNeg))) fun S4 =>
      ck (inb s0 101) <|
      ck (inb l3 10) <|
      ck (inb s0 101) <|
      nm (si S4 25 s0.toNatClampNeg ((gi S4 25 s0.toNatClampNeg) - (gi S4 17 l3.toNatClampNeg))) fun S5 =>
      nm (l3 + (1)) fun x6 =>
      k25 (S5, x6)
def Dy_layOut_b25 (N : Nat) (k25 : (St × Int32) → Option St) (S : St) (l1 : Int32) (l2 : Nat) (l3 : Int32) : Option St :=
  if (gi S 1 10) ≤ l3 then
    Dy_layOut_L132 N (S, (1 : Int32))
  else
    ck (isI l2) <| ck (inb l3 (lenI l2)) <|
    if (gi S l2 l3.toNatClampNeg) = (-1 : Int32) then
      Dy_layOut_b51 N k25 S l1 l2 l3 (100 : Int32)
    else
      ck (isI l2) <| ck (inb l3 (lenI l2)) <|
      Dy_layOut_b51 N k25 S l1 l2 l3 (gi S l2 l3.toNatClampNeg)
def Dy_layOut_L25 (N : Nat) (l1 : Int32) (l2 : Nat) : (St × Int32) → Option St :=
  lp (fun k x => Dy_layOut_b25 N k x.1 l1 l2 x.2) N
def Dy_layOut (N : Nat) (S : St) (p1 : Int32) (p2 : Nat) : Option St :=
  bd1 (Ar_fill_53178 N S 25 (0 : Int32)) fun S1 =>
  ck (inb p1 6) <|
  nm (si S1 25 (0 : Int32).toNatClampNeg (gi S1 11 p1.toNatClampNeg)) fun S2 =>
  Dy_layOut_L25 N p1 p2 (S2, (0 : Int32))
def Sm_goesRound (S : St) (p1 : Int32) (p2 : Int32) : Option Int32 :=
  ck (inb p1 6) <|
  ck (inb p1 6) <|
  ck (inb p1 6) <|
  bd1 (Ch_within S p2 (gi S 12 p1.toNatClampNeg) ((gi S 12 p1.toNatClampNeg) + (gi S 13 p1.toNatClampNeg))) fun r1 =>
  ck (isB r1) <|
  some r1
def Dy_ridesLaidOut (S : St) (p1 : Int32) (p2 : Int32) : Option Int32 :=
  ck (inb p2 101) <|
  bd1 (Sm_goesRound S p1 (gi S 25 p2.toNatClampNeg)) fun r1 =>
  ck (isB r1) <|
  some r1
def Dy_ridesLaidOutWithin_b6 (N : Nat) (k6 : (Int32 × Int32) → Option Int32) (S : St) (l1 : Int32) (l3 : Int32) (l4 : Int32) (l5 : Int32) : Option Int32 :=
  if l3 < l5 then
    some l4
  else
    bd1 (Dy_ridesLaidOut S l1 l5) fun r1 =>
    if r1 = 0 then
      nm (l5 + (1)) fun x2 =>
      k6 (l4, x2)
    else
      nm (l4 + (1)) fun x3 =>
      nm (l5 + (1)) fun x4 =>
      k6 (x3, x4)
def Dy_ridesLaidOutWithin_L6 (N : Nat) (S : St) (l1 : Int32) (l3 : Int32) : (Int32 × Int32) → Option Int32 :=
  lp (fun k x => Dy_ridesLaidOutWithin_b6 N k S l1 l3 x.1 x.2) N
def Dy_ridesLaidOutWithin (N : Nat) (S : St) (p1 : Int32) (p2 : Int32) (p3 : Int32) : Option Int32 :=
  Dy_ridesLaidOutWithin_L6 N S p1 p3 ((0 : Int32), p2)
def Dy_ridesWithin (N : Nat) (S : St) (p1 : Int32) (p2 : Int32) (p3 : Int32) : Option (Int32 × St) :=
  bd1 (Dy_layOut N S p1 18) fun S1 =>
  bd1 (Dy_ridesLaidOutWithin N S1 p1 p2 p3) fun r2 =>
  some (r2, S1)
def Dy_firstRideFrom_b14 (N : Nat) (k14 : (Int32) → Option (Int32 × St)) (S : St) (l1 : Int32) (l3 : Int32) : Option (Int32 × St) :=
  if (100 : Int32) ≤ l3 then
    some ((-2 : Int32), S)
  else
    bd1 (Dy_ridesLaidOut S l1 l3) fun r1 =>
    if r1 = 0 then
      nm (l3 + (1)) fun x2 =>
      k14 (x2)
    else
      some (l3, S)
def Dy_firstRideFrom_L14 (N : Nat) (S : St) (l1 : Int32) : (Int32) → Option (Int32 × St) :=
  lp (fun k x => Dy_firstRideFrom_b14 N k S l1 x) N
def Dy_firstRideFrom (N : Nat) (S : St) (p1 : Int32) (p2 : Int32) : Option (Int32 × St) :=
  bd1 (Dy_layOut N S p1 18) fun S1 =>
  Dy_firstRideFrom_L14 N S1 p1 (p2)
def Dy_longestRideStart_b48 (N : Nat) (k23 : (Int32 × Int32 × Int32 × Int32) → Option (Int32 × St)) (S : St) (l1 : Int32) (l2 : Int32) (l3 : Int32) (l5 : Int32) (s0 : Int32) : Option (Int32 × St) :=
  if s0 ≤ l3 then
    nm (l5 + (1)) fun x1 =>
    k23 (l2, l3, s0, x1)
  else
    nm (((l5 - s0) + (1 : Int32))) fun x2 =>
    nm (l5 + (1)) fun x3 =>
    k23 (x2, s0, s0, x3)
def Dy_longestRideStart_b23 (N : Nat) (k23 : (Int32 × Int32 × Int32 × Int32) → Option (Int32 × St)) (S : St) (l1 : Int32) (l2 : Int32) (l3 : Int32) (l4 : Int32) (l5 : Int32) : Option (Int32 × St) :=
  if (100 : Int32) ≤ l5 then
    some (l2, S)
  else
    bd1 (Dy_ridesLaidOut S l1 l5) fun r1 =>
    if r1 = 0 then
      Dy_longestRideStart_b48 N k23 S l1 l2 l3 l5 (0 : Int32)
    else
      Dy_longestRideStart_b48 N k23 S l1 l2 l3 l5 (l4 + (1 : Int32))
def Dy_longestRideStart_L23 (N : Nat) (S : St) (l1 : Int32) : (Int32 × Int32 × Int32 × Int32) → Option (Int32 × St) :=
  lp (fun k x => Dy_longestRideStart_b23 N k S l1 x.1 x.2.1 x.2.2.1 x.2.2.2) N
def Dy_longestRideStart (N : Nat) (S : St) (p1 : Int32) : Option (Int32 × St) :=
  bd1 (Dy_layOut N S p1 18) fun S1 =>
  Dy_longestRideStart_L23 N S1 p1 ((-2 : Int32), (0 : Int32), (0 : Int32), (0 : Int32))
def Dy_rideFrom_b14 (N : Nat) (k14 : (Int32) → Option (Int32 × St)) (S : St) (l1 : Int32) (l2 : Int32) (l3 : Int32) : Option (Int32 × St) :=
  if (100 : Int32) ≤ l3 then
    some ((l3 - l2), S)
  else
    bd1 (Dy_ridesLaidOut S l1 l3) fun r1 =>
    if r1 = 0 then
      some ((l3 - l2), S)
    else
      nm (l3 + (1)) fun x2 =>
      k14 (x2)
def Dy_rideFrom_L14 (N : Nat) (S : St) (l1 : Int32) (l2 : Int32) : (Int32) → Option (Int32 × St) :=
  lp (fun k x => Dy_rideFrom_b14 N k S l1 l2 x) N
def Dy_rideFrom (N : Nat) (S : St) (p1 : Int32) (p2 : Int32) : Option (Int32 × St) :=
  bd1 (Dy_layOut N S p1 18) fun S1 =>
  Dy_rideFrom_L14 N S1 p1 p2 (p2)
def Dy_fullestDay_b76 (N : Nat) (k76 : (Int32 × Int32) → Option (Int32 × St)) (S : St) (l1 : Int32) (l2 : Int32) : Option (Int32 × St) :=
  if (100 : Int32) ≤ l2 then
    some (l1, S)
  else
    ck (inb l2 100) <|
    ck (inb l1 100) <|
    if (gi S 26 l2.toNatClampNeg) ≤ (gi S 26 l1.toNatClampNeg) then
      nm (l2 + (1)) fun x1 =>
      k76 (l1, x1)
    else
      nm (l2 + (1)) fun x2 =>
      k76 (l2, x2)
def Dy_fullestDay_L76 (N : Nat) (S : St) : (Int32 × Int32) → Option (Int32 × St) :=
  lp (fun k x => Dy_fullestDay_b76 N k S x.1 x.2) N
def Dy_fullestDay_b35 (N : Nat) (k10 : (St × Int32) → Option (Int32 × St)) (k35 : (St × Int32) → Option (Int32 × St)) (S : St) (l1 : Int32) (l2 : Int32) : Option (Int32 × St) :=
  if (100 : Int32) ≤ l2 then
    nm (l1 + (1)) fun x1 =>
    k10 (S, x1)
  else
    bd1 (Dy_ridesLaidOut S l1 l2) fun r2 =>
    if r2 = 0 then
      nm (l2 + (1)) fun x3 =>
      k35 (S, x3)
    else
      ck (inb l2 100) <|
      ck (inb l2 100) <|
      nm (si S 26 l2.toNatClampNeg ((gi S 26 l2.toNatClampNeg) + (1 : Int32))) fun S4 =>
      nm (l2 + (1)) fun x5 =>
      k35 (S4, x5)
def Dy_fullestDay_L35 (N : Nat) (k10 : (St × Int32) → Option (Int32 × St)) (l1 : Int32) : (St × Int32) → Option (Int32 × St) :=
  lp (fun k x => Dy_fullestDay_b35 N k10 k x.1 l1 x.2) N
def Dy_fullestDay_b10 (N : Nat) (k10 : (St × Int32) → Option (Int32 × St)) (S : St) (l1 : Int32) : Option (Int32 × St) :=
  if (gi S 1 9) ≤ l1 then
    Dy_fullestDay_L76 N S ((0 : Int32), (1 : Int32))
  else
    bd1 (Dy_layOut N S l1 18) fun S1 =>
    Dy_fullestDay_L35 N k10 l1 (S1, (0 : Int32))
def Dy_fullestDay_L10 (N : Nat) : (St × Int32) → Option (Int32 × St) :=
  lp (fun k x => Dy_fullestDay_b10 N k x.1 x.2) N
def Dy_fullestDay (N : Nat) (S : St) : Option (Int32 × St) :=
  bd1 (Ar_fill_53178 N S 26 (0 : Int32)) fun S1 =>
  Dy_fullestDay_L10 N (S1, (0 : Int32))
def Dy_drawLife_b4 (N : Nat) (k4 : (St × Int32 × Int32) → Option (Int32 × St)) (S : St) (l2 : Int32) (l3 : Int32) : Option (Int32 × St) :=
  if (gi S 1 10) ≤ l3 then
    some (l2, S)
  else
    nm (((l2 * (1103515245 : Int32)) + (12345 : Int32))) fun x1 =>
    nm ((((x1.toUInt32 >>> ((8 : Int32).toUInt32 &&& Int32.toUInt32 31)).toInt32) - ((x1.toUInt32 >>> ((8 : Int32).toUInt32 &&& Int32.toUInt32 31)).toInt32) / (100 : Int32) * (100 : Int32))) fun x2 =>
    ck (inb l3 10) <|
    if x2 < (gi S 15 l3.toNatClampNeg) then
      ck (inb l3 10) <|
      nm (si S 27 l3.toNatClampNeg (-1 : Int32)) fun S3 =>
      nm (l3 + (1)) fun x4 =>
      k4 (S3, x1, x4)
    else
      ck (inb l3 10) <|
      nm (si S 27 l3.toNatClampNeg x2) fun S5 =>
      nm (l3 + (1)) fun x6 =>
      k4 (S5, x1, x6)
def Dy_drawLife_L4 (N : Nat) : (St × Int32 × Int32) → Option (Int32 × St) :=
  lp (fun k x => Dy_drawLife_b4 N k x.1 x.2.1 x.2.2) N
def Dy_drawLife (N : Nat) (S : St) (p1 : Int32) : Option (Int32 × St) :=
  Dy_drawLife_L4 N (S, p1, (0 : Int32))
def Dy_drawnRides_b9 (N : Nat) (k9 : (St × Int32 × Int32 × Int32) → Option (Int32 × St)) (S : St) (l2 : Int32) (l3 : Int32) (l4 : Int32) (l5 : Int32) (l6 : Int32) (l7 : Int32) : Option (Int32 × St) :=
  if l2 ≤ l7 then
    some (l6, S)
  else
    bd2 (Dy_drawLife N S l5) fun r2 S1 =>
    bd1 (Dy_layOut N S1 l3 27) fun S3 =>
    if l4 = (-1 : Int32) then
      bd1 (Dy_ridesLaidOutWithin N S3 l3 (0 : Int32) (99 : Int32)) fun r7 =>
      nm ((l6 + r7)) fun x8 =>
      nm (l7 + (1)) fun x9 =>
      k9 (S3, r2, x8, x9)
    else
      bd1 (Dy_ridesLaidOutWithin N S3 l3 l4 l4) fun r4 =>
      nm ((l6 + r4)) fun x5 =>
      nm (l7 + (1)) fun x6 =>
      k9 (S3, r2, x5, x6)
def Dy_drawnRides_L9 (N : Nat) (l2 : Int32) (l3 : Int32) (l4 : Int32) : (St × Int32 × Int32 × Int32) → Option (Int32 × St) :=
  lp (fun k x => Dy_drawnRides_b9 N k x.1 l2 l3 l4 x.2.1 x.2.2.1 x.2.2.2) N
def Dy_drawnRides (N : Nat) (S : St) (p1 : Int32) (p2 : Int32) (p3 : Int32) (p4 : Int32) : Option (Int32 × St) :=
  Dy_drawnRides_L9 N p2 p3 p4 (S, p1, (0 : Int32), (0 : Int32))
def Dy_ridersIfHanded_b94 (N : Nat) (k33 : (Int32 × Int32) → Option Int32) (S : St) (l1 : Int32) (l2 : Int32) (l3 : Int32) (l4 : Int32) (l5 : Int32) (l6 : Int32) (l7 : Int32) : Option Int32 :=
  bd1 (Sm_goesRound S l6 l7) fun r1 =>
  if r1 = 0 then
    nm (l6 + (1)) fun x2 =>
    k33 (l5, x2)
  else
    nm (l5 + (1)) fun x3 =>
    nm (l6 + (1)) fun x4 =>
    k33 (x3, x4)
def Dy_ridersIfHanded_b33 (N : Nat) (k33 : (Int32 × Int32) → Option Int32) (S : St) (l1 : Int32) (l2 : Int32) (l3 : Int32) (l4 : Int32) (l5 : Int32) (l6 : Int32) : Option Int32 :=
  if (gi S 1 9) ≤ l6 then
    some l5
  else
    bd1 (Sm_lengthOn N S l6 l3) fun r1 =>
    if l6 = l2 then
      nm ((r1 + l4)) fun x3 =>
      Dy_ridersIfHanded_b94 N k33 S l1 l2 l3 l4 l5 l6 x3
    else
      ck (inb l1 10) <|
      if l6 = (gi S 14 l1.toNatClampNeg) then
        nm ((r1 - l4)) fun x2 =>
        Dy_ridersIfHanded_b94 N k33 S l1 l2 l3 l4 l5 l6 x2
      else
        Dy_ridersIfHanded_b94 N k33 S l1 l2 l3 l4 l5 l6 r1
def Dy_ridersIfHanded_L33 (N : Nat) (S : St) (l1 : Int32) (l2 : Int32) (l3 : Int32) (l4 : Int32) : (Int32 × Int32) → Option Int32 :=
  lp (fun k x => Dy_ridersIfHanded_b33 N k S l1 l2 l3 l4 x.1 x.2) N
def Dy_ridersIfHanded_b25 (N : Nat) (S : St) (l1 : Int32) (l2 : Int32) (l3 : Int32) (s0 : Int32) : Option Int32 :=
  Dy_ridersIfHanded_L33 N S l1 l2 l3 s0 ((0 : Int32), (0 : Int32))
def Dy_ridersIfHanded (N : Nat) (S : St) (p1 : Int32) (p2 : Int32) (p3 : Int32) : Option Int32 :=
  bd1 (Sm_isOpen S p1 p3) fun r1 =>
  if r1 = 0 then
    Dy_ridersIfHanded_b25 N S p1 p2 p3 (0 : Int32)
  else
    ck (inb p1 10) <|
    Dy_ridersIfHanded_b25 N S p1 p2 p3 (gi S 17 p1.toNatClampNeg)
def In_bitCount (S : St) (p1 : Int32) : Option Int32 :=
  nm ((p1 - (((p1.toUInt32 >>> ((1 : Int32).toUInt32 &&& Int32.toUInt32 31)).toInt32) &&& (1431655765 : Int32)))) fun x1 =>
  nm (((x1 &&& (858993459 : Int32)) + (((x1.toUInt32 >>> ((2 : Int32).toUInt32 &&& Int32.toUInt32 31)).toInt32) &&& (858993459 : Int32)))) fun x2 =>
  nm (((x2 + ((x2.toUInt32 >>> ((4 : Int32).toUInt32 &&& Int32.toUInt32 31)).toInt32)) &&& (252645135 : Int32))) fun x3 =>
  nm ((x3 + ((x3.toUInt32 >>> ((8 : Int32).toUInt32 &&& Int32.toUInt32 31)).toInt32))) fun x4 =>
  nm ((x4 + ((x4.toUInt32 >>> ((16 : Int32).toUInt32 &&& Int32.toUInt32 31)).toInt32))) fun x5 =>
  some (x5 &&& (63 : Int32))
def Sm_ridesOn (N : Nat) (S : St) (p1 : Int32) (p2 : Int32) : Option Int32 :=
  bd1 (Sm_lengthOn N S p1 p2) fun r1 =>
  bd1 (Sm_goesRound S p1 r1) fun r2 =>
  ck (isB r2) <|
  some r2
def Sm_ridersOn_b4 (N : Nat) (k4 : (Int32 × Int32) → Option Int32) (S : St) (l1 : Int32) (l2 : Int32) (l3 : Int32) : Option Int32 :=
  if (gi S 1 9) ≤ l3 then
    some l2
  else
    bd1 (Sm_ridesOn N S l3 l1) fun r1 =>
    if r1 = 0 then
      nm (l3 + (1)) fun x2 =>
      k4 (l2, x2)
    else
      nm ((l2 ||| ((1 : Int32) <<< (l3 &&& 31)))) fun x3 =>
      nm (l3 + (1)) fun x4 =>
      k4 (x3, x4)
def Sm_ridersOn_L4 (N : Nat) (S : St) (l1 : Int32) : (Int32 × Int32) → Option Int32 :=
  lp (fun k x => Sm_ridersOn_b4 N k S l1 x.1 x.2) N
def Sm_ridersOn (N : Nat) (S : St) (p1 : Int32) : Option Int32 :=
  Sm_ridersOn_L4 N S p1 ((0 : Int32), (0 : Int32))
def Dy_bestHanding_b33 (N : Nat) (k18 : (Int32 × Int32 × Int32) → Option Int32) (k33 : (Int32 × Int32 × Int32) → Option Int32) (S : St) (l1 : Int32) (l4 : Int32) (l2 : Int32) (l3 : Int32) (l5 : Int32) : Option Int32 :=
  if (gi S 1 9) ≤ l5 then
    nm (l4 + (1)) fun x1 =>
    k18 (l2, l3, x1)
  else
    bd1 (Sm_isTied S l4) fun r2 =>
    if r2 = 0 then
      ck (inb l4 10) <|
      if l5 = (gi S 14 l4.toNatClampNeg) then
        nm (l5 + (1)) fun x8 =>
        k33 (l2, l3, x8)
      else
        bd1 (Dy_ridersIfHanded N S l4 l5 l1) fun r4 =>
        if r4 ≤ l2 then
          nm (l5 + (1)) fun x5 =>
          k33 (l2, l3, x5)
        else
          nm ((((100 : Int32) * l4) + l5)) fun x6 =>
          nm (l5 + (1)) fun x7 =>
          k33 (r4, x6, x7)
    else
      nm (l5 + (1)) fun x3 =>
      k33 (l2, l3, x3)
def Dy_bestHanding_L33 (N : Nat) (k18 : (Int32 × Int32 × Int32) → Option Int32) (S : St) (l1 : Int32) (l4 : Int32) : (Int32 × Int32 × Int32) → Option Int32 :=
  lp (fun k x => Dy_bestHanding_b33 N k18 k S l1 l4 x.1 x.2.1 x.2.2) N
def Dy_bestHanding_b18 (N : Nat) (k18 : (Int32 × Int32 × Int32) → Option Int32) (S : St) (l1 : Int32) (l2 : Int32) (l3 : Int32) (l4 : Int32) : Option Int32 :=
  if (gi S 1 10) ≤ l4 then
    some l3
  else
    Dy_bestHanding_L33 N k18 S l1 l4 (l2, l3, (0 : Int32))
def Dy_bestHanding_L18 (N : Nat) (S : St) (l1 : Int32) : (Int32 × Int32 × Int32) → Option Int32 :=
  lp (fun k x => Dy_bestHanding_b18 N k S l1 x.1 x.2.1 x.2.2) N
def Dy_bestHanding (N : Nat) (S : St) (p1 : Int32) : Option Int32 :=
  bd1 (Sm_ridersOn N S p1) fun r1 =>
  bd1 (In_bitCount S r1) fun r2 =>
  Dy_bestHanding_L18 N S p1 (r2, (-2 : Int32), (0 : Int32))
def De_now (S : St) : Option Int32 :=
  some (gi S 31 (4 : Int32).toNatClampNeg)
def De_endDay (N : Nat) (S : St) : Option (Int32 × St) :=
  bd1 (Sm_ridersOn N S (gi S 31 (4 : Int32).toNatClampNeg)) fun r1 =>
  bd1 (In_bitCount S r1) fun r2 =>
  nm (si S 31 (3 : Int32).toNatClampNeg ((gi S 31 (3 : Int32).toNatClampNeg) + r2)) fun S3 =>
  nm (si S3 31 (0 : Int32).toNatClampNeg ((gi S3 31 (0 : Int32).toNatClampNeg) + (1 : Int32))) fun S4 =>
  nm (si S4 31 (4 : Int32).toNatClampNeg ((gi S4 31 (4 : Int32).toNatClampNeg) + (1 : Int32))) fun S5 =>
  some ((gi S5 31 (4 : Int32).toNatClampNeg), S5)
def Sm_addPromise (S : St) (p1 : Int32) (p2 : Int32) (p3 : Int32) (p4 : Int32) : Option (Int32 × St) :=
  ck (inb (gi S 1 10) 10) <|
  nm (si S 14 (gi S 1 10).toNatClampNeg p1) fun S1 =>
  ck (inb (gi S1 1 10) 10) <|
  nm (si S1 15 (gi S1 1 10).toNatClampNeg p2) fun S2 =>
  ck (inb (gi S2 1 10) 10) <|
  nm (si S2 16 (gi S2 1 10).toNatClampNeg p3) fun S3 =>
  ck (inb (gi S3 1 10) 10) <|
  nm (si S3 17 (gi S3 1 10).toNatClampNeg p4) fun S4 =>
  ck (inb (gi S4 1 10) 10) <|
  nm (si S4 18 (gi S4 1 10).toNatClampNeg (-1 : Int32)) fun S5 =>
  ck (inb (gi S5 1 10) 10) <|
  nm (si S5 19 (gi S5 1 10).toNatClampNeg (-1 : Int32)) fun S6 =>
  nm ((gi S6 1 10)) fun x7 =>
  nm (si S6 1 10 (x7 + (1 : Int32))) fun S8 =>
  some (x7, S8)
def De_makePromise (S : St) (p1 : Int32) (p2 : Int32) (p3 : Int32) : Option (Int32 × St) :=
  nm (si S 31 (1 : Int32).toNatClampNeg ((gi S 31 (1 : Int32).toNatClampNeg) + (1 : Int32))) fun S1 =>
  bd2 (Sm_addPromise S1 p1 (gi S1 31 (4 : Int32).toNatClampNeg) p2 p3) fun r3 S2 =>
  some (r3, S2)
def Sm_openOnes_b4 (N : Nat) (k4 : (Int32 × Int32) → Option Int32) (S : St) (l1 : Int32) (l2 : Int32) (l3 : Int32) : Option Int32 :=
  if (gi S 1 10) ≤ l3 then
    some l2
  else
    bd1 (Sm_isOpen S l3 l1) fun r1 =>
    if r1 = 0 then
      nm (l3 + (1)) fun x2 =>
      k4 (l2, x2)
    else
      nm ((l2 ||| ((1 : Int32) <<< (l3 &&& 31)))) fun x3 =>
      nm (l3 + (1)) fun x4 =>
      k4 (x3, x4)
def Sm_openOnes_L4 (N : Nat) (S : St) (l1 : Int32) : (Int32 × Int32) → Option Int32 :=
  lp (fun k x => Sm_openOnes_b4 N k S l1 x.1 x.2) N
def Sm_openOnes (N : Nat) (S : St) (p1 : Int32) : Option Int32 :=
  Sm_openOnes_L4 N S p1 ((0 : Int32), (0 : Int32))
def De_keepPromise (N : Nat) (S : St) (p1 : Int32) : Option (Int32 × St) :=
  nm (si S 31 (2 : Int32).toNatClampNeg ((gi S 31 (2 : Int32).toNatClampNeg) + (1 : Int32))) fun S1 =>
  ck (inb p1 10) <|
  nm (si S1 18 p1.toNatClampNeg (gi S1 31 (4 : Int32).toNatClampNeg)) fun S2 =>
  bd1 (Sm_openOnes N S2 (gi S2 31 (4 : Int32).toNatClampNeg)) fun r3 =>
  bd1 (In_bitCount S2 r3) fun r4 =>
  some (r4, S2)
def De_keepImage (S : St) : Option (Int32 × St) :=
  ck (cpok (0 : Int32) (0 : Int32) (5 : Int32) 5 5) <|
  nm (cpi S 31 32 (0 : Int32).toNatClampNeg (0 : Int32).toNatClampNeg (5 : Int32).toNatClampNeg) fun S1 =>
  ck (cpok (0 : Int32) (0 : Int32) (gi S1 1 10) 10 10) <|
  nm (cpi S1 18 33 (0 : Int32).toNatClampNeg (0 : Int32).toNatClampNeg (gi S1 1 10).toNatClampNeg) fun S2 =>
  nm (si S2 7 5 (gi S2 1 10)) fun S3 =>
  nm (si S3 7 1 (1 : Int32)) fun S4 =>
  some ((gi S4 31 (4 : Int32).toNatClampNeg), S4)
def De_layBack (S : St) : Option (Int32 × St) :=
  ck (cpok (0 : Int32) (0 : Int32) (5 : Int32) 5 5) <|
  nm (cpi S 32 31 (0 : Int32).toNatClampNeg (0 : Int32).toNatClampNeg (5 : Int32).toNatClampNeg) fun S1 =>
  ck (cpok (0 : Int32) (0 : Int32) (gi S1 7 5) 10 10) <|
  nm (cpi S1 33 18 (0 : Int32).toNatClampNeg (0 : Int32).toNatClampNeg (gi S1 7 5).toNatClampNeg) fun S2 =>
  some ((gi S2 31 (4 : Int32).toNatClampNeg), S2)
def Sm_promisesOf_b4 (N : Nat) (k4 : (Int32 × Int32) → Option Int32) (S : St) (l1 : Int32) (l2 : Int32) (l3 : Int32) : Option Int32 :=
  if (gi S 1 10) ≤ l3 then
    some l2
  else
    ck (inb l3 10) <|
    if (gi S 14 l3.toNatClampNeg) = l1 then
      nm ((l2 ||| ((1 : Int32) <<< (l3 &&& 31)))) fun x2 =>
      nm (l3 + (1)) fun x3 =>
      k4 (x2, x3)
    else
      nm (l3 + (1)) fun x1 =>
      k4 (l2, x1)
def Sm_promisesOf_L4 (N : Nat) (S : St) (l1 : Int32) : (Int32 × Int32) → Option Int32 :=
  lp (fun k x => Sm_promisesOf_b4 N k S l1 x.1 x.2) N
def Sm_promisesOf (N : Nat) (S : St) (p1 : Int32) : Option Int32 :=
  Sm_promisesOf_L4 N S p1 ((0 : Int32), (0 : Int32))
def Kp_mayKeep (N : Nat) (S : St) (p1 : Int32) (p2 : Int32) : Option Int32 :=
  bd1 (Sm_promisesOf N S p1) fun r1 =>
  bd1 (Sm_openOnes N S p2) fun r2 =>
  some (r1 &&& r2)
def Ch_isIn (S : St) (p1 : Int32) (p2 : Int32) : Option Int32 :=
  if ((p1 >>> (p2 &&& 31)) &&& (1 : Int32)) = 0 then
    some (0 : Int32)
  else
    some (1 : Int32)
def Sm_linksOf_b4 (N : Nat) (k4 : (Int32 × Int32) → Option Int32) (S : St) (l1 : Int32) (l2 : Int32) (l3 : Int32) : Option Int32 :=
  if (gi S 1 10) ≤ l3 then
    some l2
  else
    bd1 (Ch_isIn S l1 l3) fun r1 =>
    if r1 = 0 then
      nm (l3 + (1)) fun x2 =>
      k4 (l2, x2)
    else
      ck (inb l3 10) <|
      nm ((l2 + (gi S 17 l3.toNatClampNeg))) fun x3 =>
      nm (l3 + (1)) fun x4 =>
      k4 (x3, x4)
def Sm_linksOf_L4 (N : Nat) (S : St) (l1 : Int32) : (Int32 × Int32) → Option Int32 :=
  lp (fun k x => Sm_linksOf_b4 N k S l1 x.1 x.2) N
def Sm_linksOf (N : Nat) (S : St) (p1 : Int32) : Option Int32 :=
  Sm_linksOf_L4 N S p1 ((0 : Int32), (0 : Int32))
def Kp_letsRide (N : Nat) (S : St) (p1 : Int32) (p2 : Int32) (p3 : Int32) (p4 : Int32) : Option Int32 :=
  if (p1 &&& (p2 ^^^ (-1 : Int32))) = 0 then
    bd1 (Sm_linksOf N S p1) fun r1 =>
    bd1 (Sm_goesRound S p3 (p4 - r1)) fun r2 =>
    if r2 = 0 then
      some (0 : Int32)
    else
      some (1 : Int32)
  else
    some (0 : Int32)
def Kp_fewestSet_b29 (N : Nat) (k29 : (Int32 × Int32 × Int32) → Option Int32) (S : St) (l1 : Int32) (l3 : Int32) (l4 : Int32) (l5 : Int32) (l6 : Int32) (l7 : Int32) : Option Int32 :=
  if l3 < l7 then
    some l5
  else
    bd1 (Kp_letsRide N S l7 l3 l1 l4) fun r1 =>
    if r1 = 0 then
      nm (l7 + (1)) fun x2 =>
      k29 (l5, l6, x2)
    else
      bd1 (In_bitCount S l7) fun r3 =>
      if l6 ≤ r3 then
        nm (l7 + (1)) fun x4 =>
        k29 (l5, l6, x4)
      else
        bd1 (In_bitCount S l7) fun r5 =>
        nm (l7 + (1)) fun x6 =>
        k29 (l7, r5, x6)
def Kp_fewestSet_L29 (N : Nat) (S : St) (l1 : Int32) (l3 : Int32) (l4 : Int32) : (Int32 × Int32 × Int32) → Option Int32 :=
  lp (fun k x => Kp_fewestSet_b29 N k S l1 l3 l4 x.1 x.2.1 x.2.2) N
def Kp_fewestSet (N : Nat) (S : St) (p1 : Int32) (p2 : Int32) : Option Int32 :=
  bd1 (Kp_mayKeep N S p1 p2) fun r1 =>
  bd1 (Sm_lengthOn N S p1 p2) fun r2 =>
  Kp_fewestSet_L29 N S p1 r1 r2 ((-2 : Int32), (11 : Int32), (0 : Int32))
def Kp_weightOf (N : Nat) (S : St) (p1 : Int32) : Option Int32 :=
  bd1 (Sm_linksOf N S p1) fun r1 =>
  bd1 (In_bitCount S p1) fun r2 =>
  some ((r1 * (11 : Int32)) + r2)
def Kp_lightestSet_b29 (N : Nat) (k29 : (Int32 × Int32 × Int32) → Option Int32) (S : St) (l1 : Int32) (l3 : Int32) (l4 : Int32) (l5 : Int32) (l6 : Int32) (l7 : Int32) : Option Int32 :=
  if l3 < l7 then
    some l5
  else
    bd1 (Kp_letsRide N S l7 l3 l1 l4) fun r1 =>
    if r1 = 0 then
      nm (l7 + (1)) fun x2 =>
      k29 (l5, l6, x2)
    else
      bd1 (Kp_weightOf N S l7) fun r3 =>
      if l6 ≤ r3 then
        nm (l7 + (1)) fun x4 =>
        k29 (l5, l6, x4)
      else
        bd1 (Kp_weightOf N S l7) fun r5 =>
        nm (l7 + (1)) fun x6 =>
        k29 (l7, r5, x6)
def Kp_lightestSet_L29 (N : Nat) (S : St) (l1 : Int32) (l3 : Int32) (l4 : Int32) : (Int32 × Int32 × Int32) → Option Int32 :=
  lp (fun k x => Kp_lightestSet_b29 N k S l1 l3 l4 x.1 x.2.1 x.2.2) N
def Kp_lightestSet (N : Nat) (S : St) (p1 : Int32) (p2 : Int32) : Option Int32 :=
  bd1 (Kp_mayKeep N S p1 p2) fun r1 =>
  bd1 (Sm_lengthOn N S p1 p2) fun r2 =>
  Kp_lightestSet_L29 N S p1 r1 r2 ((-2 : Int32), (2147483647 : Int32), (0 : Int32))
def Kp_howManySets_b24 (N : Nat) (k24 : (Int32 × Int32) → Option Int32) (S : St) (l1 : Int32) (l3 : Int32) (l4 : Int32) (l5 : Int32) (l6 : Int32) : Option Int32 :=
  if l3 < l6 then
    some l5
  else
    bd1 (Kp_letsRide N S l6 l3 l1 l4) fun r1 =>
    if r1 = 0 then
      nm (l6 + (1)) fun x2 =>
      k24 (l5, x2)
    else
      nm (l5 + (1)) fun x3 =>
      nm (l6 + (1)) fun x4 =>
      k24 (x3, x4)
def Kp_howManySets_L24 (N : Nat) (S : St) (l1 : Int32) (l3 : Int32) (l4 : Int32) : (Int32 × Int32) → Option Int32 :=
  lp (fun k x => Kp_howManySets_b24 N k S l1 l3 l4 x.1 x.2) N
def Kp_howManySets (N : Nat) (S : St) (p1 : Int32) (p2 : Int32) : Option Int32 :=
  bd1 (Kp_mayKeep N S p1 p2) fun r1 =>
  bd1 (Sm_lengthOn N S p1 p2) fun r2 =>
  Kp_howManySets_L24 N S p1 r1 r2 ((0 : Int32), (0 : Int32))
def Kp_endsRiding_b75 (N : Nat) (f_endsRiding : St → Int32 → Int32 → Int32 → Int32 → Int32 → Option Int32) (k75 : (Int32 × Int32) → Option Int32) (S : St) (l1 : Int32) (l2 : Int32) (l3 : Int32) (l5 : Int32) (l6 : Int32) (l8 : Int32) (l9 : Int32) : Option Int32 :=
  if (gi S 1 10) ≤ l9 then
    ck (isB l8) <|
    some l8
  else
    if l8 = 0 then
      bd1 (Ch_isIn S l3 l9) fun r1 =>
      if r1 = 0 then
        nm (l9 + (1)) fun x2 =>
        k75 ((0 : Int32), x2)
      else
        ck (inb l9 10) <|
        bd1 (f_endsRiding S l1 (l2 - (gi S 17 l9.toNatClampNeg)) (l3 ^^^ ((1 : Int32) <<< (l9 &&& 31))) l6 l5) fun r3 =>
        if r3 = 0 then
          nm (l9 + (1)) fun x4 =>
          k75 ((0 : Int32), x4)
        else
          nm (l9 + (1)) fun x5 =>
          k75 ((1 : Int32), x5)
    else
      ck (isB l8) <|
      some l8
def Kp_endsRiding_L75 (N : Nat) (f_endsRiding : St → Int32 → Int32 → Int32 → Int32 → Int32 → Option Int32) (S : St) (l1 : Int32) (l2 : Int32) (l3 : Int32) (l5 : Int32) (l6 : Int32) : (Int32 × Int32) → Option Int32 :=
  lp (fun k x => Kp_endsRiding_b75 N f_endsRiding k S l1 l2 l3 l5 l6 x.1 x.2) N
def Kp_endsRiding_B (N : Nat) (f_endsRiding : St → Int32 → Int32 → Int32 → Int32 → Int32 → Option Int32) (S : St) (p2 : Int32) (p3 : Int32) (p4 : Int32) (p5 : Int32) (p6 : Int32) : Option Int32 :=
  if p5 < p6 then
    nm ((p5 + (1 : Int32))) fun x1 =>
    bd1 (f_endsRiding S p2 p3 p4 x1 p6) fun r2 =>
    if (p5 - p5 / (2 : Int32) * (2 : Int32)) = (1 : Int32) then
      if r2 = 0 then
        some (0 : Int32)
      else
        bd1 (f_endsRiding S p2 (p3 + (1 : Int32)) p4 x1 p6) fun r3 =>
        if r3 = 0 then
          some (0 : Int32)
        else
          some (1 : Int32)
    else
      Kp_endsRiding_L75 N f_endsRiding S p2 p3 p4 p6 x1 (r2, (0 : Int32))
  else
    bd1 (Sm_goesRound S p2 p3) fun r4 =>
    ck (isB r4) <|
    some r4
def grp_Kp_endsRiding (N : Nat) : Nat → (St → Int32 → Int32 → Int32 → Int32 → Int32 → Option Int32)
  | 0 => ((fun _ _ _ _ _ _ => none))
  | d + 1 => (Kp_endsRiding_B N (grp_Kp_endsRiding N d))
def Kp_endsRiding (N : Nat) (d : Nat) : St → Int32 → Int32 → Int32 → Int32 → Int32 → Option Int32 := (grp_Kp_endsRiding N d)
def Kp_winsByTurns (N : Nat) (S : St) (p1 : Int32) (p2 : Int32) (p3 : Int32) : Option Int32 :=
  bd1 (Sm_lengthOn N S p1 p2) fun r1 =>
  bd1 (Kp_mayKeep N S p1 p2) fun r2 =>
  bd1 (Kp_endsRiding N N S p1 r1 r2 (0 : Int32) p3) fun r3 =>
  ck (isB r3) <|
  some r3
def In_numberOfTrailingZeros_b74 (S : St) (l0 : Int32) (l1 : Int32) : Option Int32 :=
  some (l1 + ((l0.toUInt32 >>> ((1 : Int32).toUInt32 &&& Int32.toUInt32 31)).toInt32))
def In_numberOfTrailingZeros_b62 (S : St) (l0 : Int32) (l1 : Int32) : Option Int32 :=
  if l0 ≤ (4 : Int32) then
    In_numberOfTrailingZeros_b74 S l0 l1
  else
    nm (l1 + (2)) fun x1 =>
    nm (((l0.toUInt32 >>> ((2 : Int32).toUInt32 &&& Int32.toUInt32 31)).toInt32)) fun x2 =>
    In_numberOfTrailingZeros_b74 S x2 x1
def In_numberOfTrailingZeros_b49 (S : St) (l0 : Int32) (l1 : Int32) : Option Int32 :=
  if l0 ≤ (16 : Int32) then
    In_numberOfTrailingZeros_b62 S l0 l1
  else
    nm (l1 + (4)) fun x1 =>
    nm (((l0.toUInt32 >>> ((4 : Int32).toUInt32 &&& Int32.toUInt32 31)).toInt32)) fun x2 =>
    In_numberOfTrailingZeros_b62 S x2 x1
def In_numberOfTrailingZeros_b34 (S : St) (l0 : Int32) (l1 : Int32) : Option Int32 :=
  if l0 ≤ (256 : Int32) then
    In_numberOfTrailingZeros_b49 S l0 l1
  else
    nm (l1 + (8)) fun x1 =>
    nm (((l0.toUInt32 >>> ((8 : Int32).toUInt32 &&& Int32.toUInt32 31)).toInt32)) fun x2 =>
    In_numberOfTrailingZeros_b49 S x2 x1
def In_numberOfTrailingZeros (S : St) (p1 : Int32) : Option Int32 :=
  nm (((p1 ^^^ (-1 : Int32)) &&& (p1 - (1 : Int32)))) fun x1 =>
  if 0 < x1 then
    if x1 ≤ (65536 : Int32) then
      In_numberOfTrailingZeros_b34 S x1 (1 : Int32)
    else
      nm ((1 : Int32) + (16)) fun x2 =>
      nm (((x1.toUInt32 >>> ((16 : Int32).toUInt32 &&& Int32.toUInt32 31)).toInt32)) fun x3 =>
      In_numberOfTrailingZeros_b34 S x3 x2
  else
    some (x1 &&& (32 : Int32))
def Kp_bestFirstTurn_b22 (N : Nat) (k22 : (Int32) → Option Int32) (S : St) (l1 : Int32) (l3 : Int32) (l4 : Int32) (l5 : Int32) (l6 : Int32) : Option Int32 :=
  if (gi S 1 10) ≤ l6 then
    if l4 = 0 then
      some (10 : Int32)
    else
      bd1 (Kp_endsRiding N N S l1 l5 l4 (1 : Int32) l3) fun r1 =>
      if r1 = 0 then
        bd1 (In_numberOfTrailingZeros S l4) fun r2 =>
        some r2
      else
        some (10 : Int32)
  else
    bd1 (Ch_isIn S l4 l6) fun r3 =>
    if r3 = 0 then
      nm (l6 + (1)) fun x4 =>
      k22 (x4)
    else
      ck (inb l6 10) <|
      bd1 (Kp_endsRiding N N S l1 (l5 - (gi S 17 l6.toNatClampNeg)) (l4 ^^^ ((1 : Int32) <<< (l6 &&& 31))) (1 : Int32) l3) fun r5 =>
      if r5 = 0 then
        nm (l6 + (1)) fun x6 =>
        k22 (x6)
      else
        some l6
def Kp_bestFirstTurn_L22 (N : Nat) (S : St) (l1 : Int32) (l3 : Int32) (l4 : Int32) (l5 : Int32) : (Int32) → Option Int32 :=
  lp (fun k x => Kp_bestFirstTurn_b22 N k S l1 l3 l4 l5 x) N
def Kp_bestFirstTurn (N : Nat) (S : St) (p1 : Int32) (p2 : Int32) (p3 : Int32) : Option Int32 :=
  bd1 (Kp_mayKeep N S p1 p2) fun r1 =>
  bd1 (Sm_lengthOn N S p1 p2) fun r2 =>
  Kp_bestFirstTurn_L22 N S p1 p3 r1 r2 ((0 : Int32))
def La_take (S : St) (p1 : Int32) : Option (Int32 × St) :=
  ck (inb (gi S 2 0) 120) <|
  nm (si S 20 (gi S 2 0).toNatClampNeg p1) fun S1 =>
  nm (((gi S1 2 0) + (1 : Int32))) fun x2 =>
  nm (si S1 2 0 x2) fun S3 =>
  some (x2, S3)
def La_fail (S : St) : Option St :=
  if (gi S 2 9) = (-1 : Int32) then
    nm (si S 2 9 (gi S 2 8)) fun S1 =>
    some S1
  else
    some S
def La_next (S : St) : Option Int32 :=
  if (gi S 2 9) = (-1 : Int32) then
    if (gi S 2 0) ≤ (gi S 2 8) then
      some (-1 : Int32)
    else
      ck (inb (gi S 2 8) 120) <|
      some (gi S 20 (gi S 2 8).toNatClampNeg)
  else
    some (-1 : Int32)
def La_isDigit (S : St) (p1 : Int32) : Option Int32 :=
  if p1 < (48 : Int32) then
    some (0 : Int32)
  else
    if (57 : Int32) < p1 then
      some (0 : Int32)
    else
      some (1 : Int32)
def La_nameOf (S : St) (p1 : Int32) : Option Int32 :=
  if p1 = 99 then
    some (2 : Int32)
  else
  if p1 = 100 then
    some (-1 : Int32)
  else
  if p1 = 101 then
    some (-1 : Int32)
  else
  if p1 = 102 then
    some (-1 : Int32)
  else
  if p1 = 103 then
    some (-1 : Int32)
  else
  if p1 = 104 then
    some (-1 : Int32)
  else
  if p1 = 105 then
    some (-1 : Int32)
  else
  if p1 = 106 then
    some (-1 : Int32)
  else
  if p1 = 107 then
    some (-1 : Int32)
  else
  if p1 = 108 then
    some (1 : Int32)
  else
  if p1 = 109 then
    some (-1 : Int32)
  else
  if p1 = 110 then
    some (-1 : Int32)
  else
  if p1 = 111 then
    some (0 : Int32)
  else
  if p1 = 112 then
    some (5 : Int32)
  else
  if p1 = 113 then
    some (-1 : Int32)
  else
  if p1 = 114 then
    some (3 : Int32)
  else
  if p1 = 115 then
    some (-1 : Int32)
  else
  if p1 = 116 then
    some (4 : Int32)
  else
  some (-1 : Int32)
def La_write (S : St) (p1 : Int32) : Option St :=
  if (121 : Int32) ≤ (gi S 2 7) then
    some S
  else
    ck (inb (gi S 2 7) 121) <|
    nm (si S 22 (gi S 2 7).toNatClampNeg p1) fun S1 =>
    nm (si S1 2 7 ((gi S1 2 7) + (1 : Int32))) fun S2 =>
    some S2
def La_readNumber_b48 (N : Nat) (S : St) (l1 : Int32) : Option St :=
  bd1 (La_write S ((256 : Int32) + l1)) fun S1 =>
  some S1
def La_readNumber_b4 (N : Nat) (k4 : (St × Int32 × Int32) → Option St) (S : St) (l1 : Int32) (l2 : Int32) : Option St :=
  if (4 : Int32) ≤ l2 then
    La_readNumber_b48 N S l1
  else
    bd1 (La_next S) fun r1 =>
    bd1 (La_isDigit S r1) fun r2 =>
    if r2 = 0 then
      La_readNumber_b48 N S l1
    else
      bd1 (La_next S) fun r3 =>
      nm ((((l1 * (10 : Int32)) + r3) - (48 : Int32))) fun x4 =>
      nm (si S 2 8 ((gi S 2 8) + (1 : Int32))) fun S5 =>
      nm (l2 + (1)) fun x6 =>
      k4 (S5, x4, x6)
def La_readNumber_L4 (N : Nat) : (St × Int32 × Int32) → Option St :=
  lp (fun k x => La_readNumber_b4 N k x.1 x.2.1 x.2.2) N
def La_readNumber (N : Nat) (S : St) : Option St :=
  La_readNumber_L4 N (S, (0 : Int32), (0 : Int32))
def La_readLevel_b23 (N : Nat) (f_readLevel : St → Int32 → Int32 → Option St) (f_readOpened : St → Int32 → Int32 → Option St) (f_readOperand : St → Int32 → Option St) (f_readPart : St → Int32 → Int32 → Option St) (k23 : (St × Int32) → Option St) (S : St) (l1 : Int32) (l2 : Int32) (l3 : Int32) (l4 : Int32) : Option St :=
  if l3 ≤ l4 then
    some S
  else
    bd1 (La_next S) fun r1 =>
    bd1 (La_levelOf S r1) fun r2 =>
    if r2 = l1 then
      bd1 (La_next S) fun r3 =>
      nm (si S 2 8 ((gi S 2 8) + (1 : Int32))) fun S4 =>
      bd1 (f_readPart S4 (l1 + (1 : Int32)) l2) fun S5 =>
      bd1 (La_write S5 r3) fun S6 =>
      nm (l4 + (1)) fun x7 =>
      k23 (S6, x7)
    else
      some S
def La_readLevel_L23 (N : Nat) (f_readLevel : St → Int32 → Int32 → Option St) (f_readOpened : St → Int32 → Int32 → Option St) (f_readOperand : St → Int32 → Option St) (f_readPart : St → Int32 → Int32 → Option St) (l1 : Int32) (l2 : Int32) (l3 : Int32) : (St × Int32) → Option St :=
  lp (fun k x => La_readLevel_b23 N f_readLevel f_readOpened f_readOperand f_readPart k x.1 l1 l2 l3 x.2) N
def La_readLevel_B (N : Nat) (f_readLevel : St → Int32 → Int32 → Option St) (f_readOpened : St → Int32 → Int32 → Option St) (f_readOperand : St → Int32 → Option St) (f_readPart : St → Int32 → Int32 → Option St) (S : St) (p1 : Int32) (p2 : Int32) : Option St :=
  bd1 (f_readPart S (p1 + (1 : Int32)) p2) fun S1 =>
  if p1 = (2 : Int32) then
    La_readLevel_L23 N f_readLevel f_readOpened f_readOperand f_readPart p1 p2 (1 : Int32) (S1, (0 : Int32))
  else
    La_readLevel_L23 N f_readLevel f_readOpened f_readOperand f_readPart p1 p2 (120 : Int32) (S1, (0 : Int32))
def La_readOpened_B (N : Nat) (f_readLevel : St → Int32 → Int32 → Option St) (f_readOpened : St → Int32 → Int32 → Option St) (f_readOperand : St → Int32 → Option St) (f_readPart : St → Int32 → Int32 → Option St) (S : St) (p1 : Int32) (p2 : Int32) : Option St :=
  if p1 = (40 : Int32) then
    bd1 (f_readLevel S (0 : Int32) p2) fun S4 =>
    bd1 (La_next S4) fun r5 =>
    if r5 = (41 : Int32) then
      nm (si S4 2 8 ((gi S4 2 8) + (1 : Int32))) fun S7 =>
      some S7
    else
      bd1 (La_fail S4) fun S6 =>
      some S6
  else
    bd1 (f_readOperand S p2) fun S1 =>
    if p1 = (45 : Int32) then
      bd1 (La_write S1 (126 : Int32)) fun S3 =>
      some S3
    else
      bd1 (La_write S1 p1) fun S2 =>
      some S2
def La_readOperand_b65 (N : Nat) (f_readLevel : St → Int32 → Int32 → Option St) (f_readOpened : St → Int32 → Int32 → Option St) (f_readOperand : St → Int32 → Option St) (f_readPart : St → Int32 → Int32 → Option St) (S : St) (l1 : Int32) (l2 : Int32) : Option St :=
  if (6 : Int32) ≤ l1 then
    bd1 (La_fail S) fun S1 =>
    some S1
  else
    nm (si S 2 8 ((gi S 2 8) + (1 : Int32))) fun S2 =>
    bd1 (f_readOpened S2 l2 (l1 + (1 : Int32))) fun S3 =>
    some S3
def La_readOperand_B (N : Nat) (f_readLevel : St → Int32 → Int32 → Option St) (f_readOpened : St → Int32 → Int32 → Option St) (f_readOperand : St → Int32 → Option St) (f_readPart : St → Int32 → Int32 → Option St) (S : St) (p1 : Int32) : Option St :=
  bd1 (La_next S) fun r1 =>
  bd1 (La_isDigit S r1) fun r2 =>
  if r2 = 0 then
    bd1 (La_nameOf S r1) fun r3 =>
    if r3 < 0 then
      if r1 = (40 : Int32) then
        La_readOperand_b65 N f_readLevel f_readOpened f_readOperand f_readPart S p1 r1
      else
        if r1 = (33 : Int32) then
          La_readOperand_b65 N f_readLevel f_readOpened f_readOperand f_readPart S p1 r1
        else
          if r1 = (45 : Int32) then
            La_readOperand_b65 N f_readLevel f_readOpened f_readOperand f_readPart S p1 r1
          else
            bd1 (La_fail S) fun S4 =>
            some S4
    else
      nm (si S 2 8 ((gi S 2 8) + (1 : Int32))) fun S5 =>
      bd1 (La_nameOf S5 r1) fun r6 =>
      bd1 (La_write S5 r6) fun S7 =>
      some S7
  else
    bd1 (La_readNumber N S) fun S8 =>
    some S8
def La_readPart_B (N : Nat) (f_readLevel : St → Int32 → Int32 → Option St) (f_readOpened : St → Int32 → Int32 → Option St) (f_readOperand : St → Int32 → Option St) (f_readPart : St → Int32 → Int32 → Option St) (S : St) (p1 : Int32) (p2 : Int32) : Option St :=
  if p1 < (5 : Int32) then
    bd1 (f_readLevel S p1 p2) fun S1 =>
    some S1
  else
    bd1 (f_readOperand S p2) fun S2 =>
    some S2
def grp_La_readLevel (N : Nat) : Nat → (St → Int32 → Int32 → Option St) × (St → Int32 → Int32 → Option St) × (St → Int32 → Option St) × (St → Int32 → Int32 → Option St)
  | 0 => ((fun _ _ _ => none), (fun _ _ _ => none), (fun _ _ => none), (fun _ _ _ => none))
  | d + 1 => (La_readLevel_B N ((grp_La_readLevel N d).1) ((grp_La_readLevel N d).2.1) ((grp_La_readLevel N d).2.2.1) ((grp_La_readLevel N d).2.2.2), La_readOpened_B N ((grp_La_readLevel N d).1) ((grp_La_readLevel N d).2.1) ((grp_La_readLevel N d).2.2.1) ((grp_La_readLevel N d).2.2.2), La_readOperand_B N ((grp_La_readLevel N d).1) ((grp_La_readLevel N d).2.1) ((grp_La_readLevel N d).2.2.1) ((grp_La_readLevel N d).2.2.2), La_readPart_B N ((grp_La_readLevel N d).1) ((grp_La_readLevel N d).2.1) ((grp_La_readLevel N d).2.2.1) ((grp_La_readLevel N d).2.2.2))
def La_readLevel (N : Nat) (d : Nat) : St → Int32 → Int32 → Option St := ((grp_La_readLevel N d).1)
def La_readOpened (N : Nat) (d : Nat) : St → Int32 → Int32 → Option St := ((grp_La_readLevel N d).2.1)
def La_readOperand (N : Nat) (d : Nat) : St → Int32 → Option St := ((grp_La_readLevel N d).2.2.1)
def La_readPart (N : Nat) (d : Nat) : St → Int32 → Int32 → Option St := ((grp_La_readLevel N d).2.2.2)
def La_readLine (N : Nat) (S : St) : Option St :=
  bd1 (La_readLevel N N S (0 : Int32) (0 : Int32)) fun S1 =>
  bd1 (La_next S1) fun r2 =>
  if r2 = (63 : Int32) then
    nm (si S1 2 8 ((gi S1 2 8) + (1 : Int32))) fun S4 =>
    bd1 (La_write S4 (63 : Int32)) fun S5 =>
    bd1 (La_readLevel N N S5 (0 : Int32) (0 : Int32)) fun S6 =>
    bd1 (La_write S6 (59 : Int32)) fun S7 =>
    some S7
  else
    bd1 (La_write S1 (59 : Int32)) fun S3 =>
    some S3
def La_read_b71 (N : Nat) (S : St) : Option (Int32 × St) :=
  nm (si S 2 0 (0 : Int32)) fun S1 =>
  if (gi S1 2 9) = (-1 : Int32) then
    ck (cpok (0 : Int32) (0 : Int32) (gi S1 2 7) 121 121) <|
    nm (cpi S1 22 21 (0 : Int32).toNatClampNeg (0 : Int32).toNatClampNeg (gi S1 2 7).toNatClampNeg) fun S2 =>
    nm (si S2 2 6 (gi S2 2 7)) fun S3 =>
    some ((gi S3 2 9), S3)
  else
    some ((gi S1 2 9), S1)
def La_read_b56 (N : Nat) (S : St) : Option (Int32 × St) :=
  if (gi S 2 0) ≤ (gi S 2 8) then
    La_read_b71 N S
  else
    bd1 (La_fail S) fun S1 =>
    La_read_b71 N S1
def La_read_b21 (N : Nat) (k21 : (St × Int32) → Option (Int32 × St)) (S : St) (l1 : Int32) : Option (Int32 × St) :=
  if (120 : Int32) < l1 then
    La_read_b56 N S
  else
    bd1 (La_next S) fun r1 =>
    if r1 = (59 : Int32) then
      nm (si S 2 8 ((gi S 2 8) + (1 : Int32))) fun S2 =>
      bd1 (La_readLine N S2) fun S3 =>
      nm (l1 + (1)) fun x4 =>
      k21 (S3, x4)
    else
      La_read_b56 N S
def La_read_L21 (N : Nat) : (St × Int32) → Option (Int32 × St) :=
  lp (fun k x => La_read_b21 N k x.1 x.2) N
def La_read (N : Nat) (S : St) : Option (Int32 × St) :=
  nm (si S 2 8 (0 : Int32)) fun S1 =>
  nm (si S1 2 7 (0 : Int32)) fun S2 =>
  nm (si S2 2 9 (-1 : Int32)) fun S3 =>
  bd1 (La_readLine N S3) fun S4 =>
  La_read_L21 N (S4, (1 : Int32))
def Li_isBody (S : St) (p1 : Int32) : Option Int32 :=
  if p1 < 0 then
    some (0 : Int32)
  else
    if (gi S 9 0) ≤ p1 then
      some (0 : Int32)
    else
      some (1 : Int32)
def Li_add (S : St) (p1 : Int32) : Option (Int32 × St) :=
  ck (inb (gi S 9 0) 50) <|
  nm (si S 39 (gi S 9 0).toNatClampNeg p1) fun S1 =>
  nm ((gi S1 9 0)) fun x2 =>
  nm (si S1 9 0 (x2 + (1 : Int32))) fun S3 =>
  some (x2, S3)
def Li_kindOf (S : St) (p1 : Int32) : Option Int32 :=
  bd1 (Li_isBody S p1) fun r1 =>
  if r1 = 0 then
    some (-1 : Int32)
  else
    ck (inb p1 50) <|
    some (gi S 39 p1.toNatClampNeg)
def Li_isUnder_b4 (N : Nat) (k4 : (Int32 × Int32) → Option Int32) (S : St) (l1 : Int32) (l2 : Int32) (l3 : Int32) : Option Int32 :=
  if (8 : Int32) ≤ l3 then
    some (0 : Int32)
  else
    if l2 < 0 then
      some (0 : Int32)
    else
      if (8 : Int32) ≤ l2 then
        some (0 : Int32)
      else
        if l2 = l1 then
          some (1 : Int32)
        else
          ck (inb l2 8) <|
          nm ((tblA l2.toNatClampNeg)) fun x1 =>
          nm (l3 + (1)) fun x2 =>
          k4 (x1, x2)
def Li_isUnder_L4 (N : Nat) (S : St) (l1 : Int32) : (Int32 × Int32) → Option Int32 :=
  lp (fun k x => Li_isUnder_b4 N k S l1 x.1 x.2) N
def Li_isUnder (N : Nat) (S : St) (p1 : Int32) (p2 : Int32) : Option Int32 :=
  Li_isUnder_L4 N S p2 (p1, (0 : Int32))
def Li_kindWith_b4 (N : Nat) (k4 : (Int32 × Int32) → Option Int32) (S : St) (l1 : Int32) (l2 : Int32) (l3 : Int32) : Option Int32 :=
  if (8 : Int32) ≤ l3 then
    some (-1 : Int32)
  else
    if l2 < 0 then
      some (-1 : Int32)
    else
      if (8 : Int32) ≤ l2 then
        some (-1 : Int32)
      else
        ck (inb ((l2 * (4 : Int32)) + l1) 32) <|
        if (tblO ((l2 * (4 : Int32)) + l1).toNatClampNeg) = 0 then
          ck (inb l2 8) <|
          nm ((tblA l2.toNatClampNeg)) fun x1 =>
          nm (l3 + (1)) fun x2 =>
          k4 (x1, x2)
        else
          some l2
def Li_kindWith_L4 (N : Nat) (S : St) (l1 : Int32) : (Int32 × Int32) → Option Int32 :=
  lp (fun k x => Li_kindWith_b4 N k S l1 x.1 x.2) N
def Li_kindWith (N : Nat) (S : St) (p1 : Int32) (p2 : Int32) : Option Int32 :=
  Li_kindWith_L4 N S p2 (p1, (0 : Int32))
def Li_note_b19 (S : St) : Option St :=
  nm (si S 9 1 ((gi S 9 1) + (1 : Int32))) fun S1 =>
  some S1
def Li_note (S : St) (p1 : Int32) : Option St :=
  if (24 : Int32) ≤ (gi S 9 1) then
    Li_note_b19 S
  else
    ck (inb (gi S 9 1) 24) <|
    nm (si S 38 (gi S 9 1).toNatClampNeg p1) fun S1 =>
    Li_note_b19 S1
def Li_fromAbove_B (N : Nat) (f_fromAbove : St → Int32 → Int32 → Int32 → Int32 → Option (Int32 × St)) (f_own : St → Int32 → Int32 → Int32 → Option (Int32 × St)) (f_run : St → Int32 → Int32 → Int32 → Int32 → Option (Int32 × St)) (S : St) (p1 : Int32) (p2 : Int32) (p3 : Int32) (p4 : Int32) : Option (Int32 × St) :=
  ck (inb p1 8) <|
  bd2 (f_run S (tblA p1.toNatClampNeg) p2 p3 p4) fun r2 S1 =>
  some (r2, S1)
def Li_own_B (N : Nat) (f_fromAbove : St → Int32 → Int32 → Int32 → Int32 → Option (Int32 × St)) (f_own : St → Int32 → Int32 → Int32 → Option (Int32 × St)) (f_run : St → Int32 → Int32 → Int32 → Int32 → Option (Int32 × St)) (S : St) (p1 : Int32) (p2 : Int32) (p3 : Int32) : Option (Int32 × St) :=
  ck (inb (gi S 9 4) 50) <|
  bd2 (f_run S (gi S 39 (gi S 9 4).toNatClampNeg) p1 p2 p3) fun r2 S1 =>
  some (r2, S1)
def Li_run_B (N : Nat) (f_fromAbove : St → Int32 → Int32 → Int32 → Int32 → Option (Int32 × St)) (f_own : St → Int32 → Int32 → Int32 → Option (Int32 × St)) (f_run : St → Int32 → Int32 → Int32 → Int32 → Option (Int32 × St)) (S : St) (p1 : Int32) (p2 : Int32) (p3 : Int32) (p4 : Int32) : Option (Int32 × St) :=
  bd1 (Li_kindWith N S p1 p2) fun r1 =>
  if r1 < 0 then
    some ((0 : Int32), S)
  else
    if p4 < (30 : Int32) then
      ck (inb ((r1 * (4 : Int32)) + p2) 32) <|
      nm ((tblO ((r1 * (4 : Int32)) + p2).toNatClampNeg)) fun x2 =>
      bd1 (Li_note S x2) fun S3 =>
      nm ((p4 + (1 : Int32))) fun x4 =>
      if x2 = 1 then
        some ((p3 + (gi S3 9 4)), S3)
      else
      if x2 = 2 then
        bd2 (f_own S3 (1 : Int32) p3 x4) fun r6 S5 =>
        bd2 (f_own S5 (2 : Int32) (1 : Int32) x4) fun r8 S7 =>
        some ((r6 - r8), S7)
      else
      if x2 = 10 then
        bd2 (f_own S3 (0 : Int32) p3 x4) fun r10 S9 =>
        some ((r10 * (2 : Int32)), S9)
      else
      if x2 = 11 then
        some ((p3 ^^^ (gi S3 9 4)), S3)
      else
      if x2 = 20 then
        bd2 (f_fromAbove S3 r1 (0 : Int32) p3 x4) fun r12 S11 =>
        some ((r12 + (3 : Int32)), S11)
      else
      if x2 = 30 then
        bd2 (f_fromAbove S3 r1 (1 : Int32) p3 x4) fun r14 S13 =>
        some ((-r14), S13)
      else
      if x2 = 40 then
        bd2 (f_fromAbove S3 r1 (2 : Int32) p3 x4) fun r16 S15 =>
        some ((r16 * (3 : Int32)), S15)
      else
      if x2 = 41 then
        bd2 (f_fromAbove S3 r1 (1 : Int32) (p3 + (1 : Int32)) x4) fun r18 S17 =>
        some (r18, S17)
      else
      if x2 = 50 then
        bd2 (f_fromAbove S3 r1 (2 : Int32) p3 x4) fun r20 S19 =>
        bd2 (f_own S19 (0 : Int32) (2 : Int32) x4) fun r22 S21 =>
        some ((r20 - r22), S21)
      else
      if x2 = 60 then
        bd2 (f_fromAbove S3 r1 (3 : Int32) p3 x4) fun r24 S23 =>
        some ((r24 ^^^ (5 : Int32)), S23)
      else
      if x2 = 70 then
        bd2 (f_fromAbove S3 r1 (0 : Int32) p3 x4) fun r26 S25 =>
        some ((r26 * (2 : Int32)), S25)
      else
      if x2 = 80 then
        bd2 (f_fromAbove S3 r1 (1 : Int32) p3 x4) fun r28 S27 =>
        bd2 (f_own S27 (2 : Int32) (2 : Int32) x4) fun r30 S29 =>
        some ((r28 + r30), S29)
      else
      if x2 = 81 then
        bd2 (f_fromAbove S3 r1 (3 : Int32) p3 x4) fun r32 S31 =>
        some ((r32 - (1 : Int32)), S31)
      else
      some ((0 : Int32), S3)
    else
      some ((0 : Int32), S)
def grp_Li_fromAbove (N : Nat) : Nat → (St → Int32 → Int32 → Int32 → Int32 → Option (Int32 × St)) × (St → Int32 → Int32 → Int32 → Option (Int32 × St)) × (St → Int32 → Int32 → Int32 → Int32 → Option (Int32 × St))
  | 0 => ((fun _ _ _ _ _ => none), (fun _ _ _ _ => none), (fun _ _ _ _ _ => none))
  | d + 1 => (Li_fromAbove_B N ((grp_Li_fromAbove N d).1) ((grp_Li_fromAbove N d).2.1) ((grp_Li_fromAbove N d).2.2), Li_own_B N ((grp_Li_fromAbove N d).1) ((grp_Li_fromAbove N d).2.1) ((grp_Li_fromAbove N d).2.2), Li_run_B N ((grp_Li_fromAbove N d).1) ((grp_Li_fromAbove N d).2.1) ((grp_Li_fromAbove N d).2.2))
def Li_fromAbove (N : Nat) (d : Nat) : St → Int32 → Int32 → Int32 → Int32 → Option (Int32 × St) := ((grp_Li_fromAbove N d).1)
def Li_own (N : Nat) (d : Nat) : St → Int32 → Int32 → Int32 → Option (Int32 × St) := ((grp_Li_fromAbove N d).2.1)
def Li_run (N : Nat) (d : Nat) : St → Int32 → Int32 → Int32 → Int32 → Option (Int32 × St) := ((grp_Li_fromAbove N d).2.2)
def Li_perform (N : Nat) (S : St) (p1 : Int32) (p2 : Int32) (p3 : Int32) : Option (Int32 × St) :=
  nm (si S 9 1 (0 : Int32)) fun S1 =>
  bd1 (Li_isBody S1 p1) fun r2 =>
  if r2 = 0 then
    some ((0 : Int32), S1)
  else
    bd1 (Ch_within S1 p2 (0 : Int32) (3 : Int32)) fun r3 =>
    if r3 = 0 then
      some ((0 : Int32), S1)
    else
      nm (si S1 9 4 p1) fun S4 =>
      bd2 (Li_own N N S4 p2 p3 (0 : Int32)) fun r6 S5 =>
      some (r6, S5)
def Sh_isShelf (S : St) (p1 : Int32) : Option Int32 :=
  if p1 < 0 then
    some (0 : Int32)
  else
    if (6 : Int32) ≤ p1 then
      some (0 : Int32)
    else
      some (1 : Int32)
def Sh_clear (S : St) (p1 : Int32) : Option (Int32 × St) :=
  ck (inb p1 6) <|
  nm (si S 42 p1.toNatClampNeg (-1 : Int32)) fun S1 =>
  some ((1 : Int32), S1)
def Sh_holdLink (S : St) (p1 : Int32) (p2 : Int32) : Option (Int32 × St) :=
  ck (inb p1 6) <|
  nm (si S 42 p1.toNatClampNeg (5 : Int32)) fun S1 =>
  ck (inb p1 6) <|
  nm (si S1 41 p1.toNatClampNeg p2) fun S2 =>
  some ((1 : Int32), S2)
def Ar_rangeCheck (S : St) (p1 : Int32) (p2 : Int32) (p3 : Int32) : Option Unit :=
  if p2 ≤ p3 then
    if 0 ≤ p2 then
      if p3 ≤ p1 then
        some ()
      else
        none
    else
      none
  else
    none
def Ar_fill_bad5a_b10 (N : Nat) (k10 : (St × Int32) → Option St) (S : St) (l0 : Nat) (l2 : Int32) (l3 : Int64) (l5 : Int32) : Option St :=
  if l2 ≤ l5 then
    some S
  else
    ck (isL l0) <| ck (inb l5 (lenL l0)) <|
    nm (sl S l0 l5.toNatClampNeg l3) fun S1 =>
    nm (l5 + (1)) fun x2 =>
    k10 (S1, x2)
def Ar_fill_bad5a_L10 (N : Nat) (l0 : Nat) (l2 : Int32) (l3 : Int64) : (St × Int32) → Option St :=
  lp (fun k x => Ar_fill_bad5a_b10 N k x.1 l0 l2 l3 x.2) N
def Ar_fill_bad5a (N : Nat) (S : St) (p1 : Nat) (p2 : Int32) (p3 : Int32) (p4 : Int64) : Option St :=
  ck (isL p1) <|
  bd1 (Ar_rangeCheck S (Int32.ofNat (lenL p1)) p2 p3) fun r1 =>
  Ar_fill_bad5a_L10 N p1 p3 p4 (S, p2)
def Sh_holdRow (N : Nat) (S : St) (p1 : Int32) (p2 : Int32) (p3 : Int32) : Option (Int32 × St) :=
  ck (inb p1 6) <|
  nm (si S 42 p1.toNatClampNeg p2) fun S1 =>
  ck (inb p1 6) <|
  nm (si S1 40 p1.toNatClampNeg p3) fun S2 =>
  bd1 (Ar_fill_bad5a N S2 43 (p1 * (60 : Int32)) ((p1 + (1 : Int32)) * (60 : Int32)) (0 : Int64)) fun S3 =>
  some ((1 : Int32), S3)
def Sh_holdsRow (S : St) (p1 : Int32) : Option Int32 :=
  ck (inb p1 6) <|
  if (gi S 42 p1.toNatClampNeg) = (-1 : Int32) then
    some (0 : Int32)
  else
    ck (inb p1 6) <|
    if (gi S 42 p1.toNatClampNeg) = (5 : Int32) then
      some (0 : Int32)
    else
      some (1 : Int32)
def Sh_refusalOfRow (S : St) (p1 : Int32) (p2 : Int32) : Option Int32 :=
  ck (inb p1 6) <|
  if (gi S 42 p1.toNatClampNeg) = (-1 : Int32) then
    some (-11 : Int32)
  else
    ck (inb p1 6) <|
    if (gi S 42 p1.toNatClampNeg) = p2 then
      some (0 : Int32)
    else
      some (-12 : Int32)
def Sh_refusalOfLink (S : St) (p1 : Int32) : Option Int32 :=
  bd1 (Sh_refusalOfRow S p1 (5 : Int32)) fun r1 =>
  some r1
def Sh_hasPlaces (S : St) (p1 : Int32) (p2 : Int32) (p3 : Int32) : Option Int32 :=
  if p2 < 0 then
    some (0 : Int32)
  else
    if p3 < 0 then
      some (0 : Int32)
    else
      ck (inb p1 6) <|
      if (gi S 40 p1.toNatClampNeg) < p3 then
        some (0 : Int32)
      else
        ck (inb p1 6) <|
        if ((gi S 40 p1.toNatClampNeg) - p3) < p2 then
          some (0 : Int32)
        else
          some (1 : Int32)
def Sh_refusalOfPlace (S : St) (p1 : Int32) (p2 : Int32) : Option Int32 :=
  ck (inb p1 6) <|
  if (gi S 42 p1.toNatClampNeg) = (-1 : Int32) then
    some (-11 : Int32)
  else
    bd1 (Sh_holdsRow S p1) fun r1 =>
    if r1 = 0 then
      some (-12 : Int32)
    else
      bd1 (Sh_hasPlaces S p1 p2 (1 : Int32)) fun r2 =>
      if r2 = 0 then
        some (-13 : Int32)
      else
        some (0 : Int32)
def Sh_refusalOfPair (S : St) (p1 : Int32) (p2 : Int32) : Option Int32 :=
  ck (inb p1 6) <|
  if (gi S 42 p1.toNatClampNeg) = (-1 : Int32) then
    some (-11 : Int32)
  else
    ck (inb p2 6) <|
    if (gi S 42 p2.toNatClampNeg) = (-1 : Int32) then
      some (-11 : Int32)
    else
      bd1 (Sh_holdsRow S p1) fun r1 =>
      if r1 = 0 then
        some (-12 : Int32)
      else
        ck (inb p1 6) <|
        ck (inb p2 6) <|
        if (gi S 42 p1.toNatClampNeg) = (gi S 42 p2.toNatClampNeg) then
          some (0 : Int32)
        else
          some (-12 : Int32)
def Sh_lowestBits (S : St) (p1 : Int32) (p2 : Int64) : Option Int64 :=
  if p1 = 0 then
    some (Int32.toInt64 (Int32.toInt8 (Int64.toInt32 p2)).toInt32)
  else
  if p1 = 1 then
    some (Int32.toInt64 (Int32.toInt16 (Int64.toInt32 p2)).toInt32)
  else
  if p1 = 2 then
    some (Int32.toInt64 (Int64.toInt32 p2))
  else
  if p1 = 3 then
    some p2
  else
  if p1 = 4 then
    if (lg_cmp p2 (0 : Int64)) = 0 then
      some (0 : Int64)
    else
      some (1 : Int64)
  else
  some p2
def Sh_putAt (S : St) (p1 : Int32) (p2 : Int32) (p3 : Int64) : Option (Int32 × St) :=
  ck (inb p1 6) <|
  bd1 (Sh_lowestBits S (gi S 42 p1.toNatClampNeg) p3) fun r1 =>
  ck (inb ((p1 * (60 : Int32)) + p2) 360) <|
  nm (sl S 43 ((p1 * (60 : Int32)) + p2).toNatClampNeg r1) fun S2 =>
  some ((1 : Int32), S2)
def Sh_move (S : St) (p1 : Int32) (p2 : Int32) (p3 : Int32) (p4 : Int32) (p5 : Int32) : Option (Int32 × St) :=
  ck (cpok ((p1 * (60 : Int32)) + p2) ((p3 * (60 : Int32)) + p4) p5 360 360) <|
  nm (cpl S 43 43 ((p1 * (60 : Int32)) + p2).toNatClampNeg ((p3 * (60 : Int32)) + p4).toNatClampNeg p5.toNatClampNeg) fun S1 =>
  some (p5, S1)
def Sm_isOne (S : St) (p1 : Int32) : Option Int32 :=
  if p1 < 0 then
    some (0 : Int32)
  else
    if (gi S 1 9) ≤ p1 then
      some (0 : Int32)
    else
      some (1 : Int32)
def Sm_isPromise (S : St) (p1 : Int32) : Option Int32 :=
  if p1 < 0 then
    some (0 : Int32)
  else
    if (gi S 1 10) ≤ p1 then
      some (0 : Int32)
    else
      some (1 : Int32)
def Sm_isFull (S : St) : Option Int32 :=
  if (gi S 1 10) < (10 : Int32) then
    some (0 : Int32)
  else
    some (1 : Int32)
def Sm_canPromise (S : St) (p1 : Int32) (p2 : Int32) (p3 : Int32) (p4 : Int32) : Option Int32 :=
  bd1 (Sm_isOne S p1) fun r1 =>
  if r1 = 0 then
    some (0 : Int32)
  else
    bd1 (Ch_isDay S p2) fun r2 =>
    if r2 = 0 then
      some (0 : Int32)
    else
      bd1 (Ch_within S p3 p2 (99 : Int32)) fun r3 =>
      if r3 = 0 then
        some (0 : Int32)
      else
        bd1 (Ch_within S p4 (1 : Int32) (9 : Int32)) fun r4 =>
        if r4 = 0 then
          some (0 : Int32)
        else
          some (1 : Int32)
def Sm_addOne (S : St) (p1 : Int32) (p2 : Int32) : Option (Int32 × St) :=
  ck (inb (gi S 1 9) 6) <|
  nm (si S 11 (gi S 1 9).toNatClampNeg p1) fun S1 =>
  ck (inb (gi S1 1 9) 6) <|
  nm (si S1 12 (gi S1 1 9).toNatClampNeg p2) fun S2 =>
  ck (inb (gi S2 1 9) 6) <|
  nm (si S2 13 (gi S2 1 9).toNatClampNeg (2 : Int32)) fun S3 =>
  nm ((gi S3 1 9)) fun x4 =>
  nm (si S3 1 9 (x4 + (1 : Int32))) fun S5 =>
  some (x4, S5)
def Sm_has (S : St) (p1 : Int32) (p2 : Int32) : Option Int32 :=
  if p2 < 0 then
    some (0 : Int32)
  else
    if p2 < (9 : Int32) then
      if (2 : Int32) < p2 then
        bd1 (Sm_isPromise S p1) fun r1 =>
        ck (isB r1) <|
        some r1
      else
        bd1 (Sm_isOne S p1) fun r2 =>
        ck (isB r2) <|
        some r2
    else
      some (0 : Int32)
def Sm_canBecome (S : St) (p1 : Int32) (p2 : Int32) (p3 : Int32) : Option Int32 :=
  if p2 = 0 then
    bd1 (Ch_within S p3 (0 : Int32) (30 : Int32)) fun r1 =>
    ck (isB r1) <|
    some r1
  else
  if p2 = 1 then
    bd1 (Ch_within S p3 (1 : Int32) (60 : Int32)) fun r2 =>
    ck (isB r2) <|
    some r2
  else
  if p2 = 2 then
    bd1 (Ch_within S p3 (0 : Int32) (9 : Int32)) fun r3 =>
    ck (isB r3) <|
    some r3
  else
  if p2 = 3 then
    ck (inb p1 10) <|
    bd1 (Ch_within S p3 (gi S 15 p1.toNatClampNeg) (99 : Int32)) fun r4 =>
    ck (isB r4) <|
    some r4
  else
  if p2 = 4 then
    bd1 (Ch_within S p3 (1 : Int32) (9 : Int32)) fun r5 =>
    ck (isB r5) <|
    some r5
  else
  if p2 = 5 then
    bd1 (Ch_within S p3 (-1 : Int32) (99 : Int32)) fun r6 =>
    ck (isB r6) <|
    some r6
  else
  if p2 = 6 then
    if p3 = (-1 : Int32) then
      some (1 : Int32)
    else
      bd1 (Sm_isOne S p3) fun r7 =>
      if r7 = 0 then
        some (0 : Int32)
      else
        ck (inb p1 10) <|
        if p3 = (gi S 14 p1.toNatClampNeg) then
          some (0 : Int32)
        else
          some (1 : Int32)
  else
  some (0 : Int32)
def Sm_numberOf (S : St) (p1 : Int32) (p2 : Int32) : Option Int32 :=
  bd1 (Sm_rowOf S p2) fun r1 =>
  ck (isI r1) <| ck (inb p1 (lenI r1)) <|
  some (gi S r1 p1.toNatClampNeg)
def Wk_eachLessOneFits_b2 (N : Nat) (k2 : (Int32) → Option Int32) (S : St) (l1 : Int32) (l2 : Int32) : Option Int32 :=
  if (gi S 1 10) ≤ l2 then
    some (1 : Int32)
  else
    bd1 (Ch_isIn S l1 l2) fun r1 =>
    if r1 = 0 then
      nm (l2 + (1)) fun x2 =>
      k2 (x2)
    else
      ck (inb (l1 ^^^ ((1 : Int32) <<< (l2 &&& 31))) 1024) <|
      if (gi S 28 (l1 ^^^ ((1 : Int32) <<< (l2 &&& 31))).toNatClampNeg) = 0 then
        some (0 : Int32)
      else
        nm (l2 + (1)) fun x3 =>
        k2 (x3)
def Wk_eachLessOneFits_L2 (N : Nat) (S : St) (l1 : Int32) : (Int32) → Option Int32 :=
  lp (fun k x => Wk_eachLessOneFits_b2 N k S l1 x) N
def Wk_eachLessOneFits (N : Nat) (S : St) (p1 : Int32) : Option Int32 :=
  Wk_eachLessOneFits_L2 N S p1 ((0 : Int32))
def Wk_hasDaysForAll_b11 (N : Nat) (k11 : (Int32 × Int32 × Int32 × Int32) → Option Int32) (S : St) (l1 : Int32) (l2 : Int32) (l3 : Int32) (l4 : Int32) (l5 : Int32) : Option Int32 :=
  if (gi S 1 10) ≤ l5 then
    if l1 = 0 then
      some (1 : Int32)
    else
      if ((l3 - l2) + (1 : Int32)) < l4 then
        some (0 : Int32)
      else
        some (1 : Int32)
  else
    bd1 (Ch_isIn S l1 l5) fun r1 =>
    if r1 = 0 then
      nm (l5 + (1)) fun x2 =>
      k11 (l2, l3, l4, x2)
    else
      ck (inb l5 10) <|
      bd1 (Ma_min S l2 (gi S 15 l5.toNatClampNeg)) fun r3 =>
      ck (inb l5 10) <|
      bd1 (Ma_max S l3 (gi S 16 l5.toNatClampNeg)) fun r4 =>
      ck (inb l5 10) <|
      nm ((l4 + (gi S 17 l5.toNatClampNeg))) fun x5 =>
      nm (l5 + (1)) fun x6 =>
      k11 (r3, r4, x5, x6)
def Wk_hasDaysForAll_L11 (N : Nat) (S : St) (l1 : Int32) : (Int32 × Int32 × Int32 × Int32) → Option Int32 :=
  lp (fun k x => Wk_hasDaysForAll_b11 N k S l1 x.1 x.2.1 x.2.2.1 x.2.2.2) N
def Wk_hasDaysForAll (N : Nat) (S : St) (p1 : Int32) : Option Int32 :=
  Wk_hasDaysForAll_L11 N S p1 ((100 : Int32), (-1 : Int32), (0 : Int32), (0 : Int32))
def Wk_isSet (S : St) (p1 : Int32) : Option Int32 :=
  if p1 < 0 then
    some (0 : Int32)
  else
    if (1024 : Int32) ≤ p1 then
      some (0 : Int32)
    else
      some (1 : Int32)
def Wk_fillFits_b2 (N : Nat) (k2 : (St × Int32) → Option St) (S : St) (l1 : Int32) (l2 : Int32) : Option St :=
  if l1 < l2 then
    some S
  else
    bd1 (Wk_isSet S l2) fun r1 =>
    if r1 = 0 then
      some S
    else
      if (l2 &&& (l1 ^^^ (-1 : Int32))) = 0 then
        bd1 (Wk_eachLessOneFits N S l2) fun r3 =>
        if r3 = 0 then
          ck (inb l2 1024) <|
          nm (si S 28 l2.toNatClampNeg (0 : Int32)) fun S4 =>
          nm (l2 + (1)) fun x5 =>
          k2 (S4, x5)
        else
          bd1 (Wk_hasDaysForAll N S l2) fun r6 =>
          if r6 = 0 then
            ck (inb l2 1024) <|
            nm (si S 28 l2.toNatClampNeg (0 : Int32)) fun S7 =>
            nm (l2 + (1)) fun x8 =>
            k2 (S7, x8)
          else
            ck (inb l2 1024) <|
            nm (si S 28 l2.toNatClampNeg (1 : Int32)) fun S9 =>
            nm (l2 + (1)) fun x10 =>
            k2 (S9, x10)
      else
        nm (l2 + (1)) fun x2 =>
        k2 (S, x2)
def Wk_fillFits_L2 (N : Nat) (l1 : Int32) : (St × Int32) → Option St :=
  lp (fun k x => Wk_fillFits_b2 N k x.1 l1 x.2) N
def Wk_fillFits (N : Nat) (S : St) (p1 : Int32) : Option St :=
  Wk_fillFits_L2 N p1 (S, (0 : Int32))
def Wk_canAll (N : Nat) (S : St) (p1 : Int32) : Option (Int32 × St) :=
  bd1 (Wk_fillFits N S p1) fun S1 =>
  bd1 (Wk_isSet S1 p1) fun r2 =>
  if r2 = 0 then
    some ((0 : Int32), S1)
  else
    ck (inb p1 1024) <|
    if (gi S1 28 p1.toNatClampNeg) = 0 then
      some ((0 : Int32), S1)
    else
      some ((1 : Int32), S1)
def Wk_greatestSet_b9 (N : Nat) (k9 : (Int32 × Int32) → Option (Int32 × St)) (S : St) (l1 : Int32) (l2 : Int32) (l3 : Int32) : Option (Int32 × St) :=
  if l1 < l3 then
    some (l2, S)
  else
    bd1 (Wk_isSet S l3) fun r1 =>
    if r1 = 0 then
      some (l2, S)
    else
      if (l3 &&& (l1 ^^^ (-1 : Int32))) = 0 then
        ck (inb l3 1024) <|
        if (gi S 28 l3.toNatClampNeg) = 0 then
          nm (l3 + (1)) fun x3 =>
          k9 (l2, x3)
        else
          bd1 (In_bitCount S l3) fun r4 =>
          bd1 (In_bitCount S l2) fun r5 =>
          if r4 ≤ r5 then
            nm (l3 + (1)) fun x6 =>
            k9 (l2, x6)
          else
            nm (l3 + (1)) fun x7 =>
            k9 (l3, x7)
      else
        nm (l3 + (1)) fun x2 =>
        k9 (l2, x2)
def Wk_greatestSet_L9 (N : Nat) (S : St) (l1 : Int32) : (Int32 × Int32) → Option (Int32 × St) :=
  lp (fun k x => Wk_greatestSet_b9 N k S l1 x.1 x.2) N
def Wk_greatestSet (N : Nat) (S : St) (p1 : Int32) : Option (Int32 × St) :=
  bd1 (Wk_fillFits N S p1) fun S1 =>
  Wk_greatestSet_L9 N S1 p1 ((0 : Int32), (0 : Int32))
def Wk_isClash (N : Nat) (S : St) (p1 : Int32) (p2 : Int32) : Option Int32 :=
  if (p1 &&& (p2 ^^^ (-1 : Int32))) = 0 then
    ck (inb p1 1024) <|
    if (gi S 28 p1.toNatClampNeg) = 0 then
      bd1 (Wk_eachLessOneFits N S p1) fun r1 =>
      if r1 = 0 then
        some (0 : Int32)
      else
        some (1 : Int32)
    else
      some (0 : Int32)
  else
    some (0 : Int32)
def Wk_howManyClashes_b9 (N : Nat) (k9 : (Int32 × Int32) → Option (Int32 × St)) (S : St) (l1 : Int32) (l2 : Int32) (l3 : Int32) : Option (Int32 × St) :=
  if l1 < l3 then
    some (l2, S)
  else
    bd1 (Wk_isSet S l3) fun r1 =>
    if r1 = 0 then
      some (l2, S)
    else
      bd1 (Wk_isClash N S l3 l1) fun r2 =>
      if r2 = 0 then
        nm (l3 + (1)) fun x3 =>
        k9 (l2, x3)
      else
        nm (l2 + (1)) fun x4 =>
        nm (l3 + (1)) fun x5 =>
        k9 (x4, x5)
def Wk_howManyClashes_L9 (N : Nat) (S : St) (l1 : Int32) : (Int32 × Int32) → Option (Int32 × St) :=
  lp (fun k x => Wk_howManyClashes_b9 N k S l1 x.1 x.2) N
def Wk_howManyClashes (N : Nat) (S : St) (p1 : Int32) : Option (Int32 × St) :=
  bd1 (Wk_fillFits N S p1) fun S1 =>
  Wk_howManyClashes_L9 N S1 p1 ((0 : Int32), (0 : Int32))
def Wk_leastClash_b7 (N : Nat) (k7 : (Int32) → Option (Int32 × St)) (S : St) (l1 : Int32) (l2 : Int32) : Option (Int32 × St) :=
  if l1 < l2 then
    some ((-2 : Int32), S)
  else
    bd1 (Wk_isSet S l2) fun r1 =>
    if r1 = 0 then
      some ((-2 : Int32), S)
    else
      bd1 (Wk_isClash N S l2 l1) fun r2 =>
      if r2 = 0 then
        nm (l2 + (1)) fun x3 =>
        k7 (x3)
      else
        some (l2, S)
def Wk_leastClash_L7 (N : Nat) (S : St) (l1 : Int32) : (Int32) → Option (Int32 × St) :=
  lp (fun k x => Wk_leastClash_b7 N k S l1 x) N
def Wk_leastClash (N : Nat) (S : St) (p1 : Int32) : Option (Int32 × St) :=
  bd1 (Wk_fillFits N S p1) fun S1 =>
  Wk_leastClash_L7 N S1 p1 ((0 : Int32))
def Ch_person (S : St) (p1 : Int32) (p2 : Int32) : Option (Int32 × St) :=
  bd1 (Ch_within S p1 (0 : Int32) (30 : Int32)) fun r1 =>
  if r1 = 0 then
    some ((-1 : Int32), S)
  else
    bd1 (Ch_within S p2 (1 : Int32) (60 : Int32)) fun r2 =>
    if r2 = 0 then
      some ((-1 : Int32), S)
    else
      if (gi S 1 9) = (6 : Int32) then
        some ((-3 : Int32), S)
      else
        bd2 (Sm_addOne S p1 p2) fun r4 S3 =>
        some (r4, S3)
def Ch_promise (S : St) (p1 : Int32) (p2 : Int32) : Option (Int32 × St) :=
  bd1 (Sm_canPromise S (p1 / (10 : Int32)) (p2 / (100 : Int32)) (p2 - p2 / (100 : Int32) * (100 : Int32)) (p1 - p1 / (10 : Int32) * (10 : Int32))) fun r1 =>
  if r1 = 0 then
    some ((-1 : Int32), S)
  else
    bd1 (Sm_isFull S) fun r2 =>
    if r2 = 0 then
      bd2 (Sm_addPromise S (p1 / (10 : Int32)) (p2 / (100 : Int32)) (p2 - p2 / (100 : Int32) * (100 : Int32)) (p1 - p1 / (10 : Int32) * (10 : Int32))) fun r4 S3 =>
      some (r4, S3)
    else
      some ((-3 : Int32), S)
def Ch_promisesFromRow_b3 (N : Nat) (k3 : (St × Int32) → Option (Int32 × St)) (S : St) (l1 : Int32) (l2 : Int32) (l3 : Int32) (l4 : Int32) : Option (Int32 × St) :=
  if l3 ≤ l4 then
    some (l4, S)
  else
    bd1 (Sm_isFull S) fun r1 =>
    if r1 = 0 then
      bd1 (Sh_hasPlaces S l1 l2 (((4 : Int32) * l4) + (4 : Int32))) fun r2 =>
      if r2 = 0 then
        some (l4, S)
      else
        nm ((l2 + ((4 : Int32) * l4))) fun x3 =>
        bd1 (Sh_elementAt S l1 x3) fun r4 =>
        nm ((Int64.toInt32 r4)) fun x5 =>
        bd1 (Sh_elementAt S l1 (x3 + (1 : Int32))) fun r6 =>
        nm ((Int64.toInt32 r6)) fun x7 =>
        bd1 (Sh_elementAt S l1 (x3 + (2 : Int32))) fun r8 =>
        nm ((Int64.toInt32 r8)) fun x9 =>
        bd1 (Sh_elementAt S l1 (x3 + (3 : Int32))) fun r10 =>
        nm ((Int64.toInt32 r10)) fun x11 =>
        bd1 (Sm_canPromise S x5 x7 x9 x11) fun r12 =>
        if r12 = 0 then
          some (l4, S)
        else
          bd2 (Sm_addPromise S x5 x7 x9 x11) fun r14 S13 =>
          nm (l4 + (1)) fun x15 =>
          k3 (S13, x15)
    else
      some (l4, S)
def Ch_promisesFromRow_L3 (N : Nat) (l1 : Int32) (l2 : Int32) (l3 : Int32) : (St × Int32) → Option (Int32 × St) :=
  lp (fun k x => Ch_promisesFromRow_b3 N k x.1 l1 l2 l3 x.2) N
def Ch_promisesFromRow (N : Nat) (S : St) (p1 : Int32) (p2 : Int32) (p3 : Int32) : Option (Int32 × St) :=
  Ch_promisesFromRow_L3 N p1 p2 p3 (S, (0 : Int32))
def Ch_promises (N : Nat) (S : St) (p1 : Int32) (p2 : Int32) (p3 : Int32) : Option (Int32 × St) :=
  bd1 (Sh_isShelf S p1) fun r1 =>
  if r1 = 0 then
    some ((-1 : Int32), S)
  else
    bd1 (Ch_within S p3 (1 : Int32) (10 : Int32)) fun r2 =>
    if r2 = 0 then
      some ((-1 : Int32), S)
    else
      bd1 (Sh_refusalOfRow S p1 (0 : Int32)) fun r3 =>
      if r3 = (-11 : Int32) then
        some ((0 : Int32), S)
      else
        if r3 = 0 then
          bd2 (Ch_promisesFromRow N S p1 p2 p3) fun r5 S4 =>
          some (r5, S4)
        else
          some (r3, S)
def Ch_mend (S : St) (p1 : Int32) (p2 : Int32) (p3 : Int32) : Option (Int32 × St) :=
  bd1 (Sm_has S p1 p2) fun r1 =>
  if r1 = 0 then
    some ((-2000000000 : Int32), S)
  else
    bd1 (Sm_canBecome S p1 p2 p3) fun r2 =>
    if r2 = 0 then
      some ((-2000000000 : Int32), S)
    else
      bd1 (Sm_numberOf S p1 p2) fun r3 =>
      if r3 = p3 then
        some (r3, S)
      else
        bd1 (Cg_add S p1 p2 r3 p3) fun S4 =>
        bd1 (Sm_become S4 p1 p2 p3) fun S5 =>
        some (r3, S5)
def Ch_of (S : St) (p1 : Int32) (p2 : Int32) : Option Int32 :=
  bd1 (Sm_has S p1 p2) fun r1 =>
  if r1 = 0 then
    some (-2000000000 : Int32)
  else
    bd1 (Sm_numberOf S p1 p2) fun r2 =>
    some r2
def Ch_feed (S : St) (p1 : Int32) : Option (Int32 × St) :=
  bd1 (Ch_within S p1 (0 : Int32) (255 : Int32)) fun r1 =>
  if r1 = 0 then
    some ((-1 : Int32), S)
  else
    if (gi S 2 0) = (120 : Int32) then
      some ((-3 : Int32), S)
    else
      bd2 (La_take S p1) fun r3 S2 =>
      some (r3, S2)
def Ch_law (N : Nat) (S : St) : Option (Int32 × St) :=
  bd2 (La_read N S) fun r2 S1 =>
  if r2 = (-1 : Int32) then
    some ((1 : Int32), S1)
  else
    some (((-100 : Int32) - r2), S1)
def Ch_chain (N : Nat) (S : St) (p1 : Int32) (p2 : Int32) (p3 : Int32) : Option (Int32 × St) :=
  bd1 (Sm_isOne S p1) fun r1 =>
  if r1 = 0 then
    some ((-1 : Int32), S)
  else
    bd1 (Ch_isDay S p2) fun r2 =>
    if r2 = 0 then
      some ((-1 : Int32), S)
    else
      if p3 = 0 then
        bd1 (Sm_lengthOn N S p1 p2) fun r3 =>
        some (r3, S)
      else
      if p3 = 1 then
        bd1 (Sm_ridesOn N S p1 p2) fun r4 =>
        if r4 = 0 then
          some ((0 : Int32), S)
        else
          some ((1 : Int32), S)
      else
      if p3 = 2 then
        bd2 (Cr_ofOne N S p1 p2) fun r6 S5 =>
        some (r6, S5)
      else
      if p3 = 3 then
        bd1 (Cr_debtOf N S p1 p2) fun r7 =>
        some (r7, S)
      else
      some ((-1 : Int32), S)
def Ch_creak (N : Nat) (S : St) (p1 : Int32) (p2 : Int32) : Option (Int32 × St) :=
  bd1 (Sm_isPromise S p1) fun r1 =>
  if r1 = 0 then
    some ((-1 : Int32), S)
  else
    bd1 (Ch_isDay S p2) fun r2 =>
    if r2 = 0 then
      some ((-1 : Int32), S)
    else
      bd2 (Cr_ofPromise N S p1 p2) fun r4 S3 =>
      some (r4, S3)
def Ch_rides (N : Nat) (S : St) (p1 : Int32) (p2 : Int32) (p3 : Int32) : Option (Int32 × St) :=
  bd1 (Sm_isOne S p1) fun r1 =>
  if r1 = 0 then
    some ((-1 : Int32), S)
  else
    bd1 (Ch_isDay S p2) fun r2 =>
    if r2 = 0 then
      some ((-1 : Int32), S)
    else
      if p3 = (-1 : Int32) then
        bd2 (Dy_firstRideFrom N S p1 p2) fun r7 S6 =>
        some (r7, S6)
      else
        bd1 (Ch_isDay S p3) fun r3 =>
        if r3 = 0 then
          some ((-1 : Int32), S)
        else
          if p3 < p2 then
            some ((-1 : Int32), S)
          else
            bd2 (Dy_ridesWithin N S p1 p2 p3) fun r5 S4 =>
            some (r5, S4)
def Ch_isEither (S : St) (p1 : Int32) : Option Int32 :=
  if p1 = 0 then
    some (1 : Int32)
  else
    if p1 = (1 : Int32) then
      some (1 : Int32)
    else
      some (0 : Int32)
def Ch_ride (N : Nat) (S : St) (p1 : Int32) (p2 : Int32) : Option (Int32 × St) :=
  bd1 (Sm_isOne S p1) fun r1 =>
  if r1 = 0 then
    some ((-1 : Int32), S)
  else
    bd1 (Ch_isEither S p2) fun r2 =>
    if r2 = 0 then
      some ((-1 : Int32), S)
    else
      bd2 (Dy_longestRideStart N S p1) fun r4 S3 =>
      if p2 = (1 : Int32) then
        some (r4, S3)
      else
        if r4 = (-2 : Int32) then
          some ((0 : Int32), S3)
        else
          bd2 (Dy_rideFrom N S3 p1 r4) fun r6 S5 =>
          some (r6, S5)
def Ch_who (N : Nat) (S : St) (p1 : Int32) : Option Int32 :=
  bd1 (Ch_isDay S p1) fun r1 =>
  if r1 = 0 then
    some (-1 : Int32)
  else
    bd1 (Sm_ridersOn N S p1) fun r2 =>
    some r2
def Ch_best (N : Nat) (S : St) (p1 : Int32) : Option (Int32 × St) :=
  bd1 (Ch_isEither S p1) fun r1 =>
  if r1 = 0 then
    some ((-1 : Int32), S)
  else
    bd2 (Dy_fullestDay N S) fun r3 S2 =>
    if p1 = 0 then
      some (r3, S2)
    else
      bd1 (Sm_ridersOn N S2 r3) fun r4 =>
      bd1 (In_bitCount S2 r4) fun r5 =>
      some (r5, S2)
def Ch_keepBy (N : Nat) (S : St) (p1 : Int32) (p2 : Int32) (p3 : Int32) : Option Int32 :=
  bd1 (Sm_isOne S p1) fun r1 =>
  if r1 = 0 then
    some (-1 : Int32)
  else
    bd1 (Ch_isDay S p2) fun r2 =>
    if r2 = 0 then
      some (-1 : Int32)
    else
      bd1 (Ch_isEither S p3) fun r3 =>
      if r3 = 0 then
        some (-1 : Int32)
      else
        bd1 (Kp_fewestSet N S p1 p2) fun r4 =>
        if r4 = (-2 : Int32) then
          some r4
        else
          if p3 = (1 : Int32) then
            some r4
          else
            bd1 (In_bitCount S r4) fun r5 =>
            some r5
def Ch_lightest (N : Nat) (S : St) (p1 : Int32) (p2 : Int32) (p3 : Int32) : Option Int32 :=
  bd1 (Sm_isOne S p1) fun r1 =>
  if r1 = 0 then
    some (-1 : Int32)
  else
    bd1 (Ch_isDay S p2) fun r2 =>
    if r2 = 0 then
      some (-1 : Int32)
    else
      bd1 (Ch_isEither S p3) fun r3 =>
      if r3 = 0 then
        some (-1 : Int32)
      else
        bd1 (Kp_lightestSet N S p1 p2) fun r4 =>
        if r4 = (-2 : Int32) then
          some r4
        else
          if p3 = 0 then
            some r4
          else
            bd1 (Sm_linksOf N S r4) fun r5 =>
            some r5
def Ch_ways (N : Nat) (S : St) (p1 : Int32) (p2 : Int32) : Option Int32 :=
  bd1 (Sm_isOne S p1) fun r1 =>
  if r1 = 0 then
    some (-1 : Int32)
  else
    bd1 (Ch_isDay S p2) fun r2 =>
    if r2 = 0 then
      some (-1 : Int32)
    else
      bd1 (Kp_howManySets N S p1 p2) fun r3 =>
      some r3
def Ch_can (N : Nat) (S : St) (p1 : Int32) (p2 : Int32) : Option (Int32 × St) :=
  bd1 (Sm_isOne S p1) fun r1 =>
  if r1 = 0 then
    some ((-1 : Int32), S)
  else
    bd1 (Sm_promisesOf N S p1) fun r2 =>
    if (p2 &&& (r2 ^^^ (-1 : Int32))) = 0 then
      bd2 (Wk_canAll N S p2) fun r4 S3 =>
      if r4 = 0 then
        some ((0 : Int32), S3)
      else
        some ((1 : Int32), S3)
    else
      some ((-1 : Int32), S)
def Ch_most (N : Nat) (S : St) (p1 : Int32) (p2 : Int32) : Option (Int32 × St) :=
  bd1 (Sm_isOne S p1) fun r1 =>
  if r1 = 0 then
    some ((-1 : Int32), S)
  else
    bd1 (Ch_isEither S p2) fun r2 =>
    if r2 = 0 then
      some ((-1 : Int32), S)
    else
      bd1 (Sm_promisesOf N S p1) fun r3 =>
      bd2 (Wk_greatestSet N S r3) fun r5 S4 =>
      if p2 = (1 : Int32) then
        some (r5, S4)
      else
        bd1 (In_bitCount S4 r5) fun r6 =>
        some (r6, S4)
def Ch_clashes (N : Nat) (S : St) (p1 : Int32) (p2 : Int32) : Option (Int32 × St) :=
  bd1 (Sm_isOne S p1) fun r1 =>
  if r1 = 0 then
    some ((-1 : Int32), S)
  else
    bd1 (Ch_isEither S p2) fun r2 =>
    if r2 = 0 then
      some ((-1 : Int32), S)
    else
      bd1 (Sm_promisesOf N S p1) fun r3 =>
      if p2 = 0 then
        bd2 (Wk_howManyClashes N S r3) fun r7 S6 =>
        some (r7, S6)
      else
        bd2 (Wk_leastClash N S r3) fun r5 S4 =>
        some (r5, S4)
def Ch_hand (N : Nat) (S : St) (p1 : Int32) (p2 : Int32) : Option Int32 :=
  nm ((p1 / (100 : Int32))) fun x1 =>
  nm ((p1 - p1 / (100 : Int32) * (100 : Int32))) fun x2 =>
  bd1 (Sm_isPromise S x1) fun r3 =>
  if r3 = 0 then
    some (-1 : Int32)
  else
    bd1 (Sm_isOne S x2) fun r4 =>
    if r4 = 0 then
      some (-1 : Int32)
    else
      ck (inb x1 10) <|
      if x2 = (gi S 14 x1.toNatClampNeg) then
        some (-1 : Int32)
      else
        bd1 (Ch_isDay S p2) fun r5 =>
        if r5 = 0 then
          some (-1 : Int32)
        else
          bd1 (Sm_isTied S x1) fun r6 =>
          if r6 = 0 then
            bd1 (Dy_ridersIfHanded N S x1 x2 p2) fun r7 =>
            some r7
          else
            some (-5 : Int32)
def Ch_handBest (N : Nat) (S : St) (p1 : Int32) (p2 : Int32) : Option Int32 :=
  bd1 (Ch_isDay S p1) fun r1 =>
  if r1 = 0 then
    some (-1 : Int32)
  else
    bd1 (Ch_isEither S p2) fun r2 =>
    if r2 = 0 then
      some (-1 : Int32)
    else
      bd1 (Dy_bestHanding N S p1) fun r3 =>
      if r3 = (-2 : Int32) then
        some r3
      else
        if p2 = 0 then
          some r3
        else
          bd1 (Dy_ridersIfHanded N S (r3 / (100 : Int32)) (r3 - r3 / (100 : Int32) * (100 : Int32)) p1) fun r4 =>
          some r4
def Ch_judge (N : Nat) (S : St) (p1 : Int32) (p2 : Int32) : Option (Int32 × St) :=
  bd1 (Sh_isShelf S p1) fun r1 =>
  if r1 = 0 then
    some ((-1 : Int32), S)
  else
    bd1 (Sm_isOne S p2) fun r2 =>
    if r2 = 0 then
      some ((-1 : Int32), S)
    else
      bd1 (Sh_refusalOfRow S p1 (1 : Int32)) fun r3 =>
      if r3 = 0 then
        bd2 (Cr_firstWrongDay N S p1 p2) fun r5 S4 =>
        some (r5, S4)
      else
        some (r3, S)
def Ch_keptOn (N : Nat) (S : St) (p1 : Int32) (p2 : Int32) (p3 : Int32) (p4 : Int32) : Option (Int32 × St) :=
  bd1 (Sh_isShelf S p1) fun r1 =>
  if r1 = 0 then
    some ((-2000000000 : Int32), S)
  else
    bd1 (Sm_isPromise S p2) fun r2 =>
    if r2 = 0 then
      some ((-2000000000 : Int32), S)
    else
      bd1 (Sm_isOne S p3) fun r3 =>
      if r3 = 0 then
        some ((-2000000000 : Int32), S)
      else
        bd1 (Ch_isEither S p4) fun r4 =>
        if r4 = 0 then
          some ((-2000000000 : Int32), S)
        else
          bd1 (Sh_refusalOfRow S p1 (1 : Int32)) fun r5 =>
          if r5 = 0 then
            bd1 (Cr_compareOpenAndKept N S p1 p2 p3) fun S6 =>
            if p4 = 0 then
              bd1 (Cr_howManyKepts N S6 p1) fun r8 =>
              some (r8, S6)
            else
              bd1 (Cr_leastKept N S6 p1) fun r7 =>
              some (r7, S6)
          else
            some ((-2000000000 : Int32), S)
def Ch_whose (N : Nat) (S : St) (p1 : Int32) : Option (Int32 × St) :=
  bd1 (Sh_isShelf S p1) fun r1 =>
  if r1 = 0 then
    some ((-1 : Int32), S)
  else
    bd1 (Sh_refusalOfRow S p1 (1 : Int32)) fun r2 =>
    if r2 = 0 then
      bd2 (Cr_ownersOf N S p1) fun r4 S3 =>
      some (r4, S3)
    else
      some (r2, S)
def Ch_byTurns (N : Nat) (S : St) (p1 : Int32) (p2 : Int32) (p3 : Int32) : Option Int32 :=
  nm ((p2 / (10 : Int32))) fun x1 =>
  nm ((p2 - p2 / (10 : Int32) * (10 : Int32))) fun x2 =>
  bd1 (Sm_isOne S p1) fun r3 =>
  if r3 = 0 then
    some (-1 : Int32)
  else
    bd1 (Ch_isDay S x1) fun r4 =>
    if r4 = 0 then
      some (-1 : Int32)
    else
      bd1 (Ch_within S x2 (1 : Int32) (6 : Int32)) fun r5 =>
      if r5 = 0 then
        some (-1 : Int32)
      else
        bd1 (Ch_isEither S p3) fun r6 =>
        if r6 = 0 then
          some (-1 : Int32)
        else
          if p3 = (1 : Int32) then
            bd1 (Kp_bestFirstTurn N S p1 x1 x2) fun r8 =>
            some r8
          else
            bd1 (Kp_winsByTurns N S p1 x1 x2) fun r7 =>
            if r7 = 0 then
              some (0 : Int32)
            else
              some (1 : Int32)
def Ch_loudest (N : Nat) (S : St) (p1 : Int32) : Option (Int32 × St) :=
  bd1 (Ch_isEither S p1) fun r1 =>
  if r1 = 0 then
    some ((-1 : Int32), S)
  else
    bd2 (Cr_loudestDay N S) fun r3 S2 =>
    if p1 = 0 then
      some (r3, S2)
    else
      bd2 (Cr_ofAll N S2 r3) fun r5 S4 =>
      some (r5, S4)
def Ch_drawn (N : Nat) (S : St) (p1 : Int32) (p2 : Int32) (p3 : Int32) (p4 : Int32) : Option (Int32 × St) :=
  bd1 (Ch_within S p2 (1 : Int32) (30 : Int32)) fun r1 =>
  if r1 = 0 then
    some ((-1 : Int32), S)
  else
    bd1 (Sm_isOne S p3) fun r2 =>
    if r2 = 0 then
      some ((-1 : Int32), S)
    else
      bd1 (Ch_within S p4 (-1 : Int32) (99 : Int32)) fun r3 =>
      if r3 = 0 then
        some ((-1 : Int32), S)
      else
        bd2 (Dy_drawnRides N S p1 p2 p3 p4) fun r5 S4 =>
        some (r5, S4)
def Ch_passes (N : Nat) (S : St) : Option (Int32 × St) :=
  bd1 (De_now S) fun r1 =>
  if r1 = (99 : Int32) then
    some ((-5 : Int32), S)
  else
    bd2 (De_endDay N S) fun r3 S2 =>
    some (r3, S2)
def Ch_vow (S : St) (p1 : Int32) (p2 : Int32) : Option (Int32 × St) :=
  bd1 (De_now S) fun r1 =>
  bd1 (Sm_canPromise S (p1 / (10 : Int32)) r1 p2 (p1 - p1 / (10 : Int32) * (10 : Int32))) fun r2 =>
  if r2 = 0 then
    some ((-1 : Int32), S)
  else
    bd1 (Sm_isFull S) fun r3 =>
    if r3 = 0 then
      bd2 (De_makePromise S (p1 / (10 : Int32)) p2 (p1 - p1 / (10 : Int32) * (10 : Int32))) fun r5 S4 =>
      some (r5, S4)
    else
      some ((-3 : Int32), S)
def Ch_kept (N : Nat) (S : St) (p1 : Int32) : Option (Int32 × St) :=
  bd1 (Sm_isPromise S p1) fun r1 =>
  if r1 = 0 then
    some ((-1 : Int32), S)
  else
    bd1 (De_now S) fun r2 =>
    bd1 (Sm_isOpen S p1 r2) fun r3 =>
    if r3 = 0 then
      some ((-5 : Int32), S)
    else
      bd2 (De_keepPromise N S p1) fun r5 S4 =>
      some (r5, S4)
def Ch_led (S : St) (p1 : Int32) : Option Int32 :=
  bd1 (Ch_within S p1 (0 : Int32) (4 : Int32)) fun r1 =>
  if r1 = 0 then
    some (-1 : Int32)
  else
    ck (inb p1 5) <|
    some (gi S 31 p1.toNatClampNeg)
def Ch_image (S : St) : Option (Int32 × St) :=
  bd2 (De_keepImage S) fun r2 S1 =>
  some (r2, S1)
def Ch_back (S : St) : Option (Int32 × St) :=
  if (gi S 7 1) = 0 then
    some ((-5 : Int32), S)
  else
    bd2 (De_layBack S) fun r2 S1 =>
    some (r2, S1)
def Ch_undo (S : St) : Option (Int32 × St) :=
  if (gi S 8 0) = 0 then
    some ((-5 : Int32), S)
  else
    bd1 (Cg_stepBack S) fun S1 =>
    some ((gi S1 8 0), S1)
def Ch_redo (S : St) : Option (Int32 × St) :=
  if (gi S 8 0) = (gi S 8 1) then
    some ((-5 : Int32), S)
  else
    bd1 (Cg_stepForward S) fun S1 =>
    some (((gi S1 8 1) - (gi S1 8 0)), S1)
def Ch_body (S : St) (p1 : Int32) : Option (Int32 × St) :=
  bd1 (Ch_within S p1 (0 : Int32) (7 : Int32)) fun r1 =>
  if r1 = 0 then
    some ((-1 : Int32), S)
  else
    if (gi S 9 0) = (50 : Int32) then
      some ((-3 : Int32), S)
    else
      bd2 (Li_add S p1) fun r3 S2 =>
      some (r3, S2)
def Ch_act (N : Nat) (S : St) (p1 : Int32) (p2 : Int32) (p3 : Int32) : Option (Int32 × St) :=
  bd2 (Li_perform N S p1 p2 p3) fun r2 S1 =>
  some (r2, S1)
def Ch_trace (S : St) (p1 : Int32) : Option Int32 :=
  if p1 < 0 then
    some (-1 : Int32)
  else
    bd1 (Ma_min S (gi S 9 1) (24 : Int32)) fun r1 =>
    if r1 ≤ p1 then
      some (-1 : Int32)
    else
      ck (inb p1 24) <|
      some (gi S 38 p1.toNatClampNeg)
def Ch_keep_b29 (S : St) (l1 : Int32) (l2 : Int32) : Option (Int32 × St) :=
  if l2 = (-1 : Int32) then
    bd2 (Sh_clear S l1) fun r4 S3 =>
    some (r4, S3)
  else
    bd2 (Sh_holdLink S l1 l2) fun r2 S1 =>
    some (r2, S1)
def Ch_keep (S : St) (p1 : Int32) (p2 : Int32) : Option (Int32 × St) :=
  bd1 (Sh_isShelf S p1) fun r1 =>
  if r1 = 0 then
    some ((-1 : Int32), S)
  else
    if p2 = (-1 : Int32) then
      Ch_keep_b29 S p1 p2
    else
      bd1 (Li_isBody S p2) fun r2 =>
      if r2 = 0 then
        some ((-1 : Int32), S)
      else
        Ch_keep_b29 S p1 p2
def Ch_row (N : Nat) (S : St) (p1 : Int32) (p2 : Int32) (p3 : Int32) : Option (Int32 × St) :=
  bd1 (Sh_isShelf S p1) fun r1 =>
  if r1 = 0 then
    some ((-1 : Int32), S)
  else
    bd1 (Ch_within S p2 (0 : Int32) (4 : Int32)) fun r2 =>
    if r2 = 0 then
      some ((-1 : Int32), S)
    else
      if p3 ≤ (60 : Int32) then
        if 0 ≤ p3 then
          bd2 (Sh_holdRow N S p1 p2 p3) fun r4 S3 =>
          some (r4, S3)
        else
          some ((-14 : Int32), S)
      else
        some ((-1 : Int32), S)
def Ch_put (S : St) (p1 : Int32) (p2 : Int32) (p3 : Int64) : Option (Int32 × St) :=
  bd1 (Sh_isShelf S p1) fun r1 =>
  if r1 = 0 then
    some ((-1 : Int32), S)
  else
    bd1 (Sh_refusalOfPlace S p1 p2) fun r2 =>
    if r2 = 0 then
      bd2 (Sh_putAt S p1 p2 p3) fun r4 S3 =>
      some (r4, S3)
    else
      some (r2, S)
def Ch_element (S : St) (p1 : Int32) (p2 : Int32) : Option Int64 :=
  bd1 (Sh_isShelf S p1) fun r1 =>
  if r1 = 0 then
    some (-9223372036854775808 : Int64)
  else
    bd1 (Sh_refusalOfPlace S p1 p2) fun r2 =>
    if r2 = 0 then
      bd1 (Sh_elementAt S p1 p2) fun r3 =>
      some r3
    else
      some (-9223372036854775808 : Int64)
def Ch_shift (S : St) (p1 : Int32) (p2 : Int32) (p3 : Int32) (p4 : Int32) (p5 : Int32) : Option (Int32 × St) :=
  bd1 (Sh_isShelf S p1) fun r1 =>
  if r1 = 0 then
    some ((-1 : Int32), S)
  else
    bd1 (Sh_isShelf S p3) fun r2 =>
    if r2 = 0 then
      some ((-1 : Int32), S)
    else
      bd1 (Sh_refusalOfPair S p1 p3) fun r3 =>
      if r3 = 0 then
        bd1 (Sh_hasPlaces S p1 p2 p5) fun r4 =>
        if r4 = 0 then
          some ((-13 : Int32), S)
        else
          bd1 (Sh_hasPlaces S p3 p4 p5) fun r5 =>
          if r5 = 0 then
            some ((-13 : Int32), S)
          else
            bd2 (Sh_move S p1 p2 p3 p4 p5) fun r7 S6 =>
            some (r7, S6)
      else
        some (r3, S)
def Ch_taken (N : Nat) (S : St) (p1 : Int32) (p2 : Int32) : Option Int32 :=
  bd1 (Sh_isShelf S p1) fun r1 =>
  if r1 = 0 then
    some (-1 : Int32)
  else
    bd1 (Ch_within S p2 (0 : Int32) (7 : Int32)) fun r2 =>
    if r2 = 0 then
      some (-1 : Int32)
    else
      bd1 (Sh_refusalOfLink S p1) fun r3 =>
      if r3 = 0 then
        ck (inb p1 6) <|
        bd1 (Li_kindOf S (gi S 41 p1.toNatClampNeg)) fun r4 =>
        bd1 (Li_isUnder N S r4 p2) fun r5 =>
        if r5 = 0 then
          some (-12 : Int32)
        else
          some r4
      else
        some r3
def Ch_count (S : St) (p1 : Int32) : Option Int32 :=
  if p1 = 0 then
    some (gi S 1 9)
  else
  if p1 = 1 then
    some (gi S 1 10)
  else
  if p1 = 2 then
    some (gi S 2 0)
  else
  if p1 = 3 then
    some (gi S 8 0)
  else
  if p1 = 4 then
    some (gi S 9 0)
  else
  if p1 = 5 then
    some (gi S 9 1)
  else
  some (-1 : Int32)
def Mo_within (S : St) (p1 : Int64) (p2 : Int64) (p3 : Int64) : Option Int32 :=
  if (lg_cmp p1 p2) < 0 then
    some (0 : Int32)
  else
    if 0 < (lg_cmp p1 p3) then
      some (0 : Int32)
    else
      some (1 : Int32)
def Mo_isIn (S : St) (p1 : Int32) (p2 : Int32) : Option Int32 :=
  if ((p1 >>> (p2 &&& 31)) &&& (1 : Int32)) = (1 : Int32) then
    some (1 : Int32)
  else
    some (0 : Int32)
def Mo_bitsOf_b4 (N : Nat) (k4 : (Int32 × Int32) → Option Int32) (S : St) (l0 : Int32) (l1 : Int32) (l2 : Int32) : Option Int32 :=
  if (10 : Int32) ≤ l2 then
    some l1
  else
    nm ((l1 + ((l0 >>> (l2 &&& 31)) &&& (1 : Int32)))) fun x1 =>
    nm (l2 + (1)) fun x2 =>
    k4 (x1, x2)
def Mo_bitsOf_L4 (N : Nat) (S : St) (l0 : Int32) : (Int32 × Int32) → Option Int32 :=
  lp (fun k x => Mo_bitsOf_b4 N k S l0 x.1 x.2) N
def Mo_bitsOf (N : Nat) (S : St) (p1 : Int32) : Option Int32 :=
  Mo_bitsOf_L4 N S p1 ((0 : Int32), (0 : Int32))
def Mo_becomes_b97 (N : Nat) (S : St) (l1 : Int32) (l2 : Int32) (l3 : Int32) : Option (Int32 × St) :=
  ck (inb (gi S 44 5) 40) <|
  nm (si S 46 (gi S 44 5).toNatClampNeg l1) fun S1 =>
  ck (inb (gi S1 44 5) 40) <|
  nm (si S1 47 (gi S1 44 5).toNatClampNeg l3) fun S2 =>
  ck (inb (gi S2 44 5) 40) <|
  nm (si S2 48 (gi S2 44 5).toNatClampNeg l2) fun S3 =>
  nm (si S3 44 5 ((gi S3 44 5) + (1 : Int32))) fun S4 =>
  nm (si S4 44 4 (gi S4 44 5)) fun S5 =>
  ck (inb l1 58) <|
  nm (si S5 45 l1.toNatClampNeg l2) fun S6 =>
  some (l3, S6)
def Mo_becomes_b26 (N : Nat) (k26 : (St × Int32) → Option (Int32 × St)) (S : St) (l1 : Int32) (l2 : Int32) (l3 : Int32) (l4 : Int32) : Option (Int32 × St) :=
  if (40 : Int32) ≤ l4 then
    nm (si S 44 5 ((gi S 44 5) - (1 : Int32))) fun S1 =>
    Mo_becomes_b97 N S1 l1 l2 l3
  else
    ck (inb l4 40) <|
    ck (inb (l4 - (1 : Int32)) 40) <|
    nm (si S 46 (l4 - (1 : Int32)).toNatClampNeg (gi S 46 l4.toNatClampNeg)) fun S2 =>
    ck (inb l4 40) <|
    ck (inb (l4 - (1 : Int32)) 40) <|
    nm (si S2 47 (l4 - (1 : Int32)).toNatClampNeg (gi S2 47 l4.toNatClampNeg)) fun S3 =>
    ck (inb l4 40) <|
    ck (inb (l4 - (1 : Int32)) 40) <|
    nm (si S3 48 (l4 - (1 : Int32)).toNatClampNeg (gi S3 48 l4.toNatClampNeg)) fun S4 =>
    nm (l4 + (1)) fun x5 =>
    k26 (S4, x5)
def Mo_becomes_L26 (N : Nat) (l1 : Int32) (l2 : Int32) (l3 : Int32) : (St × Int32) → Option (Int32 × St) :=
  lp (fun k x => Mo_becomes_b26 N k x.1 l1 l2 l3 x.2) N
def Mo_becomes (N : Nat) (S : St) (p1 : Int32) (p2 : Int32) : Option (Int32 × St) :=
  ck (inb p1 58) <|
  nm ((gi S 45 p1.toNatClampNeg)) fun x1 =>
  if x1 = p2 then
    some (x1, S)
  else
    if (gi S 44 5) = (40 : Int32) then
      Mo_becomes_L26 N p1 p2 x1 (S, (1 : Int32))
    else
      Mo_becomes_b97 N S p1 p2 x1
def Mo_undo (S : St) : Option (Int32 × St) :=
  if (gi S 44 5) = 0 then
    some ((-5 : Int32), S)
  else
    nm (si S 44 5 ((gi S 44 5) - (1 : Int32))) fun S1 =>
    ck (inb (gi S1 44 5) 40) <|
    ck (inb (gi S1 44 5) 40) <|
    ck (inb (gi S1 46 (gi S1 44 5).toNatClampNeg) 58) <|
    nm (si S1 45 (gi S1 46 (gi S1 44 5).toNatClampNeg).toNatClampNeg (gi S1 47 (gi S1 44 5).toNatClampNeg)) fun S2 =>
    some ((gi S2 44 5), S2)
def Mo_redo (S : St) : Option (Int32 × St) :=
  if (gi S 44 5) = (gi S 44 4) then
    some ((-5 : Int32), S)
  else
    ck (inb (gi S 44 5) 40) <|
    ck (inb (gi S 44 5) 40) <|
    ck (inb (gi S 46 (gi S 44 5).toNatClampNeg) 58) <|
    nm (si S 45 (gi S 46 (gi S 44 5).toNatClampNeg).toNatClampNeg (gi S 48 (gi S 44 5).toNatClampNeg)) fun S1 =>
    nm (si S1 44 5 ((gi S1 44 5) + (1 : Int32))) fun S2 =>
    some (((gi S2 44 4) - (gi S2 44 5)), S2)
def Mo_isOne (S : St) (p1 : Int64) : Option Int32 :=
  bd1 (Mo_within S p1 (0 : Int64) (Int32.toInt64 ((gi S 44 6) - (1 : Int32)))) fun r1 =>
  ck (isB r1) <|
  some r1
def Mo_isPromise (S : St) (p1 : Int64) : Option Int32 :=
  bd1 (Mo_within S p1 (0 : Int64) (Int32.toInt64 ((gi S 44 7) - (1 : Int32)))) fun r1 =>
  ck (isB r1) <|
  some r1
def Mo_isDay (S : St) (p1 : Int64) : Option Int32 :=
  bd1 (Mo_within S p1 (0 : Int64) (99 : Int64)) fun r1 =>
  ck (isB r1) <|
  some r1
def Mo_person (S : St) (p1 : Int32) (p2 : Int32) : Option (Int32 × St) :=
  bd1 (Mo_within S (Int32.toInt64 p1) (0 : Int64) (30 : Int64)) fun r1 =>
  if r1 = 0 then
    some ((-1 : Int32), S)
  else
    bd1 (Mo_within S (Int32.toInt64 p2) (1 : Int64) (60 : Int64)) fun r2 =>
    if r2 = 0 then
      some ((-1 : Int32), S)
    else
      if (gi S 44 6) = (6 : Int32) then
        some ((-3 : Int32), S)
      else
        ck (inb (gi S 44 6) 58) <|
        nm (si S 45 (gi S 44 6).toNatClampNeg p1) fun S3 =>
        ck (inb ((6 : Int32) + (gi S3 44 6)) 58) <|
        nm (si S3 45 ((6 : Int32) + (gi S3 44 6)).toNatClampNeg p2) fun S4 =>
        ck (inb ((12 : Int32) + (gi S4 44 6)) 58) <|
        nm (si S4 45 ((12 : Int32) + (gi S4 44 6)).toNatClampNeg (2 : Int32)) fun S5 =>
        nm (si S5 44 6 ((gi S5 44 6) + (1 : Int32))) fun S6 =>
        some (((gi S6 44 6) - (1 : Int32)), S6)
def Mo_mayCome (S : St) (p1 : Int64) (p2 : Int64) (p3 : Int64) (p4 : Int64) : Option Int32 :=
  bd1 (Mo_isOne S p1) fun r1 =>
  if r1 = 0 then
    some (0 : Int32)
  else
    bd1 (Mo_isDay S p2) fun r2 =>
    if r2 = 0 then
      some (0 : Int32)
    else
      bd1 (Mo_within S p3 p2 (99 : Int64)) fun r3 =>
      if r3 = 0 then
        some (0 : Int32)
      else
        bd1 (Mo_within S p4 (1 : Int64) (9 : Int64)) fun r4 =>
        if r4 = 0 then
          some (0 : Int32)
        else
          some (1 : Int32)
def Mo_adds (S : St) (p1 : Int32) (p2 : Int32) (p3 : Int32) (p4 : Int32) : Option (Int32 × St) :=
  ck (inb (gi S 44 7) 10) <|
  nm (si S 49 (gi S 44 7).toNatClampNeg p1) fun S1 =>
  ck (inb (gi S1 44 7) 10) <|
  nm (si S1 50 (gi S1 44 7).toNatClampNeg p2) fun S2 =>
  ck (inb ((18 : Int32) + (gi S2 44 7)) 58) <|
  nm (si S2 45 ((18 : Int32) + (gi S2 44 7)).toNatClampNeg p3) fun S3 =>
  ck (inb ((28 : Int32) + (gi S3 44 7)) 58) <|
  nm (si S3 45 ((28 : Int32) + (gi S3 44 7)).toNatClampNeg p4) fun S4 =>
  ck (inb ((38 : Int32) + (gi S4 44 7)) 58) <|
  nm (si S4 45 ((38 : Int32) + (gi S4 44 7)).toNatClampNeg (-1 : Int32)) fun S5 =>
  ck (inb ((48 : Int32) + (gi S5 44 7)) 58) <|
  nm (si S5 45 ((48 : Int32) + (gi S5 44 7)).toNatClampNeg (-1 : Int32)) fun S6 =>
  nm (si S6 44 7 ((gi S6 44 7) + (1 : Int32))) fun S7 =>
  some (((gi S7 44 7) - (1 : Int32)), S7)
def Mo_promise (S : St) (p1 : Int32) (p2 : Int32) : Option (Int32 × St) :=
  if p1 < 0 then
    some ((-1 : Int32), S)
  else
    if p2 < 0 then
      some ((-1 : Int32), S)
    else
      bd1 (Mo_mayCome S (Int32.toInt64 (p1 / (10 : Int32))) (Int32.toInt64 (p2 / (100 : Int32))) (Int32.toInt64 (p2 - p2 / (100 : Int32) * (100 : Int32))) (Int32.toInt64 (p1 - p1 / (10 : Int32) * (10 : Int32)))) fun r1 =>
      if r1 = 0 then
        some ((-1 : Int32), S)
      else
        if (gi S 44 7) = (10 : Int32) then
          some ((-3 : Int32), S)
        else
          bd2 (Mo_adds S (p1 / (10 : Int32)) (p2 / (100 : Int32)) (p2 - p2 / (100 : Int32) * (100 : Int32)) (p1 - p1 / (10 : Int32) * (10 : Int32))) fun r3 S2 =>
          some (r3, S2)
def Mo_isShelf (S : St) (p1 : Int32) : Option Int32 :=
  bd1 (Mo_within S (Int32.toInt64 p1) (0 : Int64) (5 : Int64)) fun r1 =>
  ck (isB r1) <|
  some r1
def Mo_promises_b177 (N : Nat) (k69 : (St × Int32 × Int32) → Option (Int32 × St)) (S : St) (l1 : Int32) (l2 : Int32) (l3 : Int32) (l4 : Int32) (l6 : Int32) (s0 : Int32) : Option (Int32 × St) :=
  if s0 = 0 then
    k69 (S, l4, s0)
  else
    ck (inb l6 360) <|
    ck (inb (l6 + (1 : Int32)) 360) <|
    ck (inb (l6 + (2 : Int32)) 360) <|
    ck (inb (l6 + (3 : Int32)) 360) <|
    bd2 (Mo_adds S (Int64.toInt32 (gl S 63 l6.toNatClampNeg)) (Int64.toInt32 (gl S 63 (l6 + (1 : Int32)).toNatClampNeg)) (Int64.toInt32 (gl S 63 (l6 + (2 : Int32)).toNatClampNeg)) (Int64.toInt32 (gl S 63 (l6 + (3 : Int32)).toNatClampNeg))) fun r2 S1 =>
    nm (l4 + (1)) fun x3 =>
    k69 (S1, x3, s0)
def Mo_promises_b111 (N : Nat) (k69 : (St × Int32 × Int32) → Option (Int32 × St)) (S : St) (l1 : Int32) (l2 : Int32) (l3 : Int32) (l4 : Int32) (s0 : Int32) : Option (Int32 × St) :=
  nm (((((60 : Int32) * l1) + l2) + ((4 : Int32) * l4))) fun x1 =>
  if s0 = 0 then
    Mo_promises_b177 N k69 S l1 l2 l3 l4 x1 (0 : Int32)
  else
    ck (inb x1 360) <|
    ck (inb (x1 + (1 : Int32)) 360) <|
    ck (inb (x1 + (2 : Int32)) 360) <|
    ck (inb (x1 + (3 : Int32)) 360) <|
    bd1 (Mo_mayCome S (gl S 63 x1.toNatClampNeg) (gl S 63 (x1 + (1 : Int32)).toNatClampNeg) (gl S 63 (x1 + (2 : Int32)).toNatClampNeg) (gl S 63 (x1 + (3 : Int32)).toNatClampNeg)) fun r2 =>
    if r2 = 0 then
      Mo_promises_b177 N k69 S l1 l2 l3 l4 x1 (0 : Int32)
    else
      Mo_promises_b177 N k69 S l1 l2 l3 l4 x1 (1 : Int32)
def Mo_promises_b69 (N : Nat) (k69 : (St × Int32 × Int32) → Option (Int32 × St)) (S : St) (l1 : Int32) (l2 : Int32) (l3 : Int32) (l4 : Int32) (l5 : Int32) : Option (Int32 × St) :=
  if l5 = 0 then
    some (l4, S)
  else
    if l3 ≤ l4 then
      some (l4, S)
    else
      ck (inb l1 6) <|
      if (((gi S 62 l1.toNatClampNeg) - (4 : Int32)) - ((4 : Int32) * l4)) < l2 then
        Mo_promises_b111 N k69 S l1 l2 l3 l4 (0 : Int32)
      else
        if (10 : Int32) ≤ (gi S 44 7) then
          Mo_promises_b111 N k69 S l1 l2 l3 l4 (0 : Int32)
        else
          Mo_promises_b111 N k69 S l1 l2 l3 l4 (1 : Int32)
def Mo_promises_L69 (N : Nat) (l1 : Int32) (l2 : Int32) (l3 : Int32) : (St × Int32 × Int32) → Option (Int32 × St) :=
  lp (fun k x => Mo_promises_b69 N k x.1 l1 l2 l3 x.2.1 x.2.2) N
def Mo_promises_b44 (N : Nat) (S : St) (l1 : Int32) (l2 : Int32) (l3 : Int32) : Option (Int32 × St) :=
  ck (inb l1 6) <|
  if (gi S 61 l1.toNatClampNeg) = (50 : Int32) then
    if l2 < 0 then
      Mo_promises_L69 N l1 l2 l3 (S, (0 : Int32), (0 : Int32))
    else
      Mo_promises_L69 N l1 l2 l3 (S, (0 : Int32), (1 : Int32))
  else
    Mo_promises_L69 N l1 l2 l3 (S, (0 : Int32), (0 : Int32))
def Mo_promises (N : Nat) (S : St) (p1 : Int32) (p2 : Int32) (p3 : Int32) : Option (Int32 × St) :=
  bd1 (Mo_isShelf S p1) fun r1 =>
  if r1 = 0 then
    some ((-1 : Int32), S)
  else
    bd1 (Mo_within S (Int32.toInt64 p3) (1 : Int64) (10 : Int64)) fun r2 =>
    if r2 = 0 then
      some ((-1 : Int32), S)
    else
      ck (inb p1 6) <|
      if (gi S 61 p1.toNatClampNeg) < 0 then
        Mo_promises_b44 N S p1 p2 p3
      else
        ck (inb p1 6) <|
        if (gi S 61 p1.toNatClampNeg) = (50 : Int32) then
          Mo_promises_b44 N S p1 p2 p3
        else
          some ((-12 : Int32), S)
def Mo_placeOf (S : St) (p1 : Int32) (p2 : Int32) : Option Int32 :=
  bd1 (Mo_within S (Int32.toInt64 p2) (0 : Int64) (2 : Int64)) fun r1 =>
  if r1 = 0 then
    bd1 (Mo_within S (Int32.toInt64 p2) (3 : Int64) (6 : Int64)) fun r2 =>
    if r2 = 0 then
      some (-1 : Int32)
    else
      bd1 (Mo_isPromise S (Int32.toInt64 p1)) fun r3 =>
      if r3 = 0 then
        some (-1 : Int32)
      else
        some (((18 : Int32) + ((10 : Int32) * (p2 - (3 : Int32)))) + p1)
  else
    bd1 (Mo_isOne S (Int32.toInt64 p1)) fun r4 =>
    if r4 = 0 then
      some (-1 : Int32)
    else
      some (((6 : Int32) * p2) + p1)
def Mo_mayBecome (S : St) (p1 : Int32) (p2 : Int32) (p3 : Int32) : Option Int32 :=
  if p2 = 0 then
    bd1 (Mo_within S (Int32.toInt64 p3) (0 : Int64) (30 : Int64)) fun r1 =>
    ck (isB r1) <|
    some r1
  else
  if p2 = 1 then
    bd1 (Mo_within S (Int32.toInt64 p3) (1 : Int64) (60 : Int64)) fun r2 =>
    ck (isB r2) <|
    some r2
  else
  if p2 = 2 then
    bd1 (Mo_within S (Int32.toInt64 p3) (0 : Int64) (9 : Int64)) fun r3 =>
    ck (isB r3) <|
    some r3
  else
  if p2 = 3 then
    ck (inb p1 10) <|
    bd1 (Mo_within S (Int32.toInt64 p3) (Int32.toInt64 (gi S 50 p1.toNatClampNeg)) (99 : Int64)) fun r4 =>
    ck (isB r4) <|
    some r4
  else
  if p2 = 4 then
    bd1 (Mo_within S (Int32.toInt64 p3) (1 : Int64) (9 : Int64)) fun r5 =>
    ck (isB r5) <|
    some r5
  else
  if p2 = 5 then
    bd1 (Mo_within S (Int32.toInt64 p3) (-1 : Int64) (99 : Int64)) fun r6 =>
    ck (isB r6) <|
    some r6
  else
  if p3 = (-1 : Int32) then
    some (1 : Int32)
  else
    bd1 (Mo_isOne S (Int32.toInt64 p3)) fun r7 =>
    if r7 = 0 then
      some (0 : Int32)
    else
      ck (inb p1 10) <|
      if p3 = (gi S 49 p1.toNatClampNeg) then
        some (0 : Int32)
      else
        some (1 : Int32)
def Mo_mend (N : Nat) (S : St) (p1 : Int32) (p2 : Int32) (p3 : Int32) : Option (Int32 × St) :=
  bd1 (Mo_placeOf S p1 p2) fun r1 =>
  if r1 < 0 then
    some ((-2000000000 : Int32), S)
  else
    bd1 (Mo_mayBecome S p1 p2 p3) fun r2 =>
    if r2 = 0 then
      some ((-2000000000 : Int32), S)
    else
      bd2 (Mo_becomes N S r1 p3) fun r4 S3 =>
      some (r4, S3)
def Mo_of (S : St) (p1 : Int32) (p2 : Int32) : Option Int32 :=
  bd1 (Mo_placeOf S p1 p2) fun r1 =>
  if r1 < 0 then
    bd1 (Mo_isPromise S (Int32.toInt64 p1)) fun r2 =>
    if r2 = 0 then
      some (-2000000000 : Int32)
    else
      if p2 = (7 : Int32) then
        ck (inb p1 10) <|
        some (gi S 49 p1.toNatClampNeg)
      else
        if p2 = (8 : Int32) then
          ck (inb p1 10) <|
          some (gi S 50 p1.toNatClampNeg)
        else
          some (-2000000000 : Int32)
  else
    ck (inb r1 58) <|
    some (gi S 45 r1.toNatClampNeg)
def Mo_feed (S : St) (p1 : Int32) : Option (Int32 × St) :=
  bd1 (Mo_within S (Int32.toInt64 p1) (0 : Int64) (255 : Int64)) fun r1 =>
  if r1 = 0 then
    some ((-1 : Int32), S)
  else
    if (gi S 44 11) = (120 : Int32) then
      some ((-3 : Int32), S)
    else
      ck (inb (gi S 44 11) 120) <|
      nm (si S 51 (gi S 44 11).toNatClampNeg p1) fun S2 =>
      nm (si S2 44 11 ((gi S2 44 11) + (1 : Int32))) fun S3 =>
      some ((gi S3 44 11), S3)
def Mo_byteAt (S : St) : Option Int32 :=
  if (gi S 44 16) ≤ (gi S 44 15) then
    some (0 : Int32)
  else
    if 0 ≤ (gi S 44 14) then
      ck (inb ((gi S 44 14) + (gi S 44 15)) 120) <|
      some (gi S 52 ((gi S 44 14) + (gi S 44 15)).toNatClampNeg)
    else
      ck (inb (gi S 44 15) 120) <|
      some (gi S 51 (gi S 44 15).toNatClampNeg)
def Mo_wrong (S : St) : Option (Int32 × St) :=
  if 0 ≤ (gi S 44 17) then
    nm (si S 44 17 (gi S 44 17)) fun S1 =>
    some ((0 : Int32), S1)
  else
    nm (si S 44 17 (gi S 44 15)) fun S2 =>
    some ((0 : Int32), S2)
def Mo_takes (S : St) (p1 : Int32) : Option (Int32 × St) :=
  if 0 ≤ (gi S 44 17) then
    some ((0 : Int32), S)
  else
    bd1 (Mo_byteAt S) fun r1 =>
    if r1 = p1 then
      nm (si S 44 15 ((gi S 44 15) + (1 : Int32))) fun S2 =>
      some ((1 : Int32), S2)
    else
      some ((0 : Int32), S)
def Mo_nameOf (S : St) (p1 : Int32) : Option Int32 :=
  if p1 = 99 then
    some (2 : Int32)
  else
  if p1 = 100 then
    some (-1 : Int32)
  else
  if p1 = 101 then
    some (-1 : Int32)
  else
  if p1 = 102 then
    some (-1 : Int32)
  else
  if p1 = 103 then
    some (-1 : Int32)
  else
  if p1 = 104 then
    some (-1 : Int32)
  else
  if p1 = 105 then
    some (-1 : Int32)
  else
  if p1 = 106 then
    some (-1 : Int32)
  else
  if p1 = 107 then
    some (-1 : Int32)
  else
  if p1 = 108 then
    some (1 : Int32)
  else
  if p1 = 109 then
    some (-1 : Int32)
  else
  if p1 = 110 then
    some (-1 : Int32)
  else
  if p1 = 111 then
    some (0 : Int32)
  else
  if p1 = 112 then
    some (5 : Int32)
  else
  if p1 = 113 then
    some (-1 : Int32)
  else
  if p1 = 114 then
    some (3 : Int32)
  else
  if p1 = 115 then
    some (-1 : Int32)
  else
  if p1 = 116 then
    some (4 : Int32)
  else
  some (-1 : Int32)
def Mo_both_b5 (N : Nat) (f_both : St → Option (Int32 × St)) (f_compared : St → Option (Int32 × St)) (f_either : St → Option (Int32 × St)) (f_one : St → Option (Int32 × St)) (f_product : St → Option (Int32 × St)) (f_sums : St → Option (Int32 × St)) (k5 : (St × Int32) → Option (Int32 × St)) (S : St) (l1 : Int32) : Option (Int32 × St) :=
  bd2 (Mo_takes S (38 : Int32)) fun r2 S1 =>
  if r2 = 0 then
    some (l1, S1)
  else
    bd2 (f_compared S1) fun r4 S3 =>
    if l1 = 0 then
      k5 (S3, (0 : Int32))
    else
      if r4 = 0 then
        k5 (S3, (0 : Int32))
      else
        k5 (S3, (1 : Int32))
def Mo_both_L5 (N : Nat) (f_both : St → Option (Int32 × St)) (f_compared : St → Option (Int32 × St)) (f_either : St → Option (Int32 × St)) (f_one : St → Option (Int32 × St)) (f_product : St → Option (Int32 × St)) (f_sums : St → Option (Int32 × St)) : (St × Int32) → Option (Int32 × St) :=
  lp (fun k x => Mo_both_b5 N f_both f_compared f_either f_one f_product f_sums k x.1 x.2) N
def Mo_both_B (N : Nat) (f_both : St → Option (Int32 × St)) (f_compared : St → Option (Int32 × St)) (f_either : St → Option (Int32 × St)) (f_one : St → Option (Int32 × St)) (f_product : St → Option (Int32 × St)) (f_sums : St → Option (Int32 × St)) (S : St) : Option (Int32 × St) :=
  bd2 (f_compared S) fun r2 S1 =>
  Mo_both_L5 N f_both f_compared f_either f_one f_product f_sums (S1, r2)
def Mo_compared_b37 (N : Nat) (f_both : St → Option (Int32 × St)) (f_compared : St → Option (Int32 × St)) (f_either : St → Option (Int32 × St)) (f_one : St → Option (Int32 × St)) (f_product : St → Option (Int32 × St)) (f_sums : St → Option (Int32 × St)) (S : St) (l1 : Int32) (l2 : Int32) : Option (Int32 × St) :=
  nm (si S 44 15 ((gi S 44 15) + (1 : Int32))) fun S1 =>
  bd2 (f_sums S1) fun r3 S2 =>
  if l2 = (60 : Int32) then
    if r3 ≤ l1 then
      some ((0 : Int32), S2)
    else
      some ((1 : Int32), S2)
  else
    if l2 = (61 : Int32) then
      if l1 = r3 then
        some ((1 : Int32), S2)
      else
        some ((0 : Int32), S2)
    else
      if l1 ≤ r3 then
        some ((0 : Int32), S2)
      else
        some ((1 : Int32), S2)
def Mo_compared_B (N : Nat) (f_both : St → Option (Int32 × St)) (f_compared : St → Option (Int32 × St)) (f_either : St → Option (Int32 × St)) (f_one : St → Option (Int32 × St)) (f_product : St → Option (Int32 × St)) (f_sums : St → Option (Int32 × St)) (S : St) : Option (Int32 × St) :=
  bd2 (f_sums S) fun r2 S1 =>
  bd1 (Mo_byteAt S1) fun r3 =>
  if 0 ≤ (gi S1 44 17) then
    some (r2, S1)
  else
    if r3 = (60 : Int32) then
      Mo_compared_b37 N f_both f_compared f_either f_one f_product f_sums S1 r2 r3
    else
      if r3 = (61 : Int32) then
        Mo_compared_b37 N f_both f_compared f_either f_one f_product f_sums S1 r2 r3
      else
        if r3 = (62 : Int32) then
          Mo_compared_b37 N f_both f_compared f_either f_one f_product f_sums S1 r2 r3
        else
          some (r2, S1)
def Mo_either_b5 (N : Nat) (f_both : St → Option (Int32 × St)) (f_compared : St → Option (Int32 × St)) (f_either : St → Option (Int32 × St)) (f_one : St → Option (Int32 × St)) (f_product : St → Option (Int32 × St)) (f_sums : St → Option (Int32 × St)) (k5 : (St × Int32) → Option (Int32 × St)) (S : St) (l1 : Int32) : Option (Int32 × St) :=
  bd2 (Mo_takes S (124 : Int32)) fun r2 S1 =>
  if r2 = 0 then
    some (l1, S1)
  else
    bd2 (f_both S1) fun r4 S3 =>
    if l1 = 0 then
      if r4 = 0 then
        k5 (S3, (0 : Int32))
      else
        k5 (S3, (1 : Int32))
    else
      k5 (S3, (1 : Int32))
def Mo_either_L5 (N : Nat) (f_both : St → Option (Int32 × St)) (f_compared : St → Option (Int32 × St)) (f_either : St → Option (Int32 × St)) (f_one : St → Option (Int32 × St)) (f_product : St → Option (Int32 × St)) (f_sums : St → Option (Int32 × St)) : (St × Int32) → Option (Int32 × St) :=
  lp (fun k x => Mo_either_b5 N f_both f_compared f_either f_one f_product f_sums k x.1 x.2) N
def Mo_either_B (N : Nat) (f_both : St → Option (Int32 × St)) (f_compared : St → Option (Int32 × St)) (f_either : St → Option (Int32 × St)) (f_one : St → Option (Int32 × St)) (f_product : St → Option (Int32 × St)) (f_sums : St → Option (Int32 × St)) (S : St) : Option (Int32 × St) :=
  bd2 (f_both S) fun r2 S1 =>
  Mo_either_L5 N f_both f_compared f_either f_one f_product f_sums (S1, r2)
def Mo_one_b104 (N : Nat) (f_both : St → Option (Int32 × St)) (f_compared : St → Option (Int32 × St)) (f_either : St → Option (Int32 × St)) (f_one : St → Option (Int32 × St)) (f_product : St → Option (Int32 × St)) (f_sums : St → Option (Int32 × St)) (S : St) (l1 : Int32) (l2 : Int32) : Option (Int32 × St) :=
  nm (si S 44 18 ((gi S 44 18) - (1 : Int32))) fun S1 =>
  if l1 = (40 : Int32) then
    some (l2, S1)
  else
    if l1 = (45 : Int32) then
      some ((-l2), S1)
    else
      if l2 = 0 then
        some ((1 : Int32), S1)
      else
        some ((0 : Int32), S1)
def Mo_one_b83 (N : Nat) (f_both : St → Option (Int32 × St)) (f_compared : St → Option (Int32 × St)) (f_either : St → Option (Int32 × St)) (f_one : St → Option (Int32 × St)) (f_product : St → Option (Int32 × St)) (f_sums : St → Option (Int32 × St)) (S : St) (l1 : Int32) (s0 : Int32) : Option (Int32 × St) :=
  if l1 = (40 : Int32) then
    bd2 (Mo_takes S (41 : Int32)) fun r2 S1 =>
    if r2 = 0 then
      bd2 (Mo_wrong S1) fun r4 S3 =>
      some (r4, S3)
    else
      Mo_one_b104 N f_both f_compared f_either f_one f_product f_sums S1 l1 s0
  else
    Mo_one_b104 N f_both f_compared f_either f_one f_product f_sums S l1 s0
def Mo_one_b32 (N : Nat) (f_both : St → Option (Int32 × St)) (f_compared : St → Option (Int32 × St)) (f_either : St → Option (Int32 × St)) (f_one : St → Option (Int32 × St)) (f_product : St → Option (Int32 × St)) (f_sums : St → Option (Int32 × St)) (S : St) (l1 : Int32) : Option (Int32 × St) :=
  if (gi S 44 18) = (6 : Int32) then
    bd2 (Mo_wrong S) fun r8 S7 =>
    some (r8, S7)
  else
    nm (si S 44 18 ((gi S 44 18) + (1 : Int32))) fun S1 =>
    nm (si S1 44 15 ((gi S1 44 15) + (1 : Int32))) fun S2 =>
    if l1 = (40 : Int32) then
      bd2 (f_either S2) fun r6 S5 =>
      Mo_one_b83 N f_both f_compared f_either f_one f_product f_sums S5 l1 r6
    else
      bd2 (f_one S2) fun r4 S3 =>
      Mo_one_b83 N f_both f_compared f_either f_one f_product f_sums S3 l1 r4
def Mo_one_b229 (N : Nat) (f_both : St → Option (Int32 × St)) (f_compared : St → Option (Int32 × St)) (f_either : St → Option (Int32 × St)) (f_one : St → Option (Int32 × St)) (f_product : St → Option (Int32 × St)) (f_sums : St → Option (Int32 × St)) (S : St) (l3 : Int32) (l4 : Int32) : Option (Int32 × St) :=
  if l4 = 0 then
    bd2 (Mo_wrong S) fun r2 S1 =>
    some (r2, S1)
  else
    some (l3, S)
def Mo_one_b176 (N : Nat) (f_both : St → Option (Int32 × St)) (f_compared : St → Option (Int32 × St)) (f_either : St → Option (Int32 × St)) (f_one : St → Option (Int32 × St)) (f_product : St → Option (Int32 × St)) (f_sums : St → Option (Int32 × St)) (k176 : (St × Int32 × Int32) → Option (Int32 × St)) (S : St) (l3 : Int32) (l4 : Int32) : Option (Int32 × St) :=
  if (4 : Int32) ≤ l4 then
    Mo_one_b229 N f_both f_compared f_either f_one f_product f_sums S l3 l4
  else
    bd1 (Mo_byteAt S) fun r1 =>
    if r1 < (48 : Int32) then
      Mo_one_b229 N f_both f_compared f_either f_one f_product f_sums S l3 l4
    else
      bd1 (Mo_byteAt S) fun r2 =>
      if (57 : Int32) < r2 then
        Mo_one_b229 N f_both f_compared f_either f_one f_product f_sums S l3 l4
      else
        bd1 (Mo_byteAt S) fun r3 =>
        nm (((((10 : Int32) * l3) + r3) - (48 : Int32))) fun x4 =>
        nm (l4 + (1)) fun x5 =>
        nm (si S 44 15 ((gi S 44 15) + (1 : Int32))) fun S6 =>
        k176 (S6, x4, x5)
def Mo_one_L176 (N : Nat) (f_both : St → Option (Int32 × St)) (f_compared : St → Option (Int32 × St)) (f_either : St → Option (Int32 × St)) (f_one : St → Option (Int32 × St)) (f_product : St → Option (Int32 × St)) (f_sums : St → Option (Int32 × St)) : (St × Int32 × Int32) → Option (Int32 × St) :=
  lp (fun k x => Mo_one_b176 N f_both f_compared f_either f_one f_product f_sums k x.1 x.2.1 x.2.2) N
def Mo_one_B (N : Nat) (f_both : St → Option (Int32 × St)) (f_compared : St → Option (Int32 × St)) (f_either : St → Option (Int32 × St)) (f_one : St → Option (Int32 × St)) (f_product : St → Option (Int32 × St)) (f_sums : St → Option (Int32 × St)) (S : St) : Option (Int32 × St) :=
  if (gi S 44 17) < 0 then
    bd1 (Mo_byteAt S) fun r1 =>
    if r1 = (33 : Int32) then
      Mo_one_b32 N f_both f_compared f_either f_one f_product f_sums S r1
    else
      if r1 = (45 : Int32) then
        Mo_one_b32 N f_both f_compared f_either f_one f_product f_sums S r1
      else
        if r1 = (40 : Int32) then
          Mo_one_b32 N f_both f_compared f_either f_one f_product f_sums S r1
        else
          bd1 (Mo_nameOf S r1) fun r2 =>
          if r2 < 0 then
            Mo_one_L176 N f_both f_compared f_either f_one f_product f_sums (S, (0 : Int32), (0 : Int32))
          else
            nm (si S 44 15 ((gi S 44 15) + (1 : Int32))) fun S3 =>
            ck (inb r2 6) <|
            some ((gi S3 53 r2.toNatClampNeg), S3)
  else
    some ((0 : Int32), S)
def Mo_product_b85 (N : Nat) (f_both : St → Option (Int32 × St)) (f_compared : St → Option (Int32 × St)) (f_either : St → Option (Int32 × St)) (f_one : St → Option (Int32 × St)) (f_product : St → Option (Int32 × St)) (f_sums : St → Option (Int32 × St)) (k10 : (St × Int32 × Int32) → Option (Int32 × St)) (S : St) (s0 : Int32) : Option (Int32 × St) :=
  bd1 (Mo_byteAt S) fun r1 =>
  k10 (S, s0, r1)
def Mo_product_b35 (N : Nat) (f_both : St → Option (Int32 × St)) (f_compared : St → Option (Int32 × St)) (f_either : St → Option (Int32 × St)) (f_one : St → Option (Int32 × St)) (f_product : St → Option (Int32 × St)) (f_sums : St → Option (Int32 × St)) (k10 : (St × Int32 × Int32) → Option (Int32 × St)) (S : St) (l1 : Int32) (l2 : Int32) : Option (Int32 × St) :=
  nm (si S 44 15 ((gi S 44 15) + (1 : Int32))) fun S1 =>
  bd2 (f_one S1) fun r3 S2 =>
  if l2 = (42 : Int32) then
    Mo_product_b85 N f_both f_compared f_either f_one f_product f_sums k10 S2 (l1 * r3)
  else
    if r3 = 0 then
      Mo_product_b85 N f_both f_compared f_either f_one f_product f_sums k10 S2 (0 : Int32)
    else
      if l2 = (47 : Int32) then
        ck (nz r3) <|
        Mo_product_b85 N f_both f_compared f_either f_one f_product f_sums k10 S2 (l1 / r3)
      else
        ck (nz r3) <|
        Mo_product_b85 N f_both f_compared f_either f_one f_product f_sums k10 S2 (l1 - l1 / r3 * r3)
def Mo_product_b10 (N : Nat) (f_both : St → Option (Int32 × St)) (f_compared : St → Option (Int32 × St)) (f_either : St → Option (Int32 × St)) (f_one : St → Option (Int32 × St)) (f_product : St → Option (Int32 × St)) (f_sums : St → Option (Int32 × St)) (k10 : (St × Int32 × Int32) → Option (Int32 × St)) (S : St) (l1 : Int32) (l2 : Int32) : Option (Int32 × St) :=
  if 0 ≤ (gi S 44 17) then
    some (l1, S)
  else
    if l2 = (42 : Int32) then
      Mo_product_b35 N f_both f_compared f_either f_one f_product f_sums k10 S l1 l2
    else
      if l2 = (47 : Int32) then
        Mo_product_b35 N f_both f_compared f_either f_one f_product f_sums k10 S l1 l2
      else
        if l2 = (37 : Int32) then
          Mo_product_b35 N f_both f_compared f_either f_one f_product f_sums k10 S l1 l2
        else
          some (l1, S)
def Mo_product_L10 (N : Nat) (f_both : St → Option (Int32 × St)) (f_compared : St → Option (Int32 × St)) (f_either : St → Option (Int32 × St)) (f_one : St → Option (Int32 × St)) (f_product : St → Option (Int32 × St)) (f_sums : St → Option (Int32 × St)) : (St × Int32 × Int32) → Option (Int32 × St) :=
  lp (fun k x => Mo_product_b10 N f_both f_compared f_either f_one f_product f_sums k x.1 x.2.1 x.2.2) N
def Mo_product_B (N : Nat) (f_both : St → Option (Int32 × St)) (f_compared : St → Option (Int32 × St)) (f_either : St → Option (Int32 × St)) (f_one : St → Option (Int32 × St)) (f_product : St → Option (Int32 × St)) (f_sums : St → Option (Int32 × St)) (S : St) : Option (Int32 × St) :=
  bd2 (f_one S) fun r2 S1 =>
  bd1 (Mo_byteAt S1) fun r3 =>
  Mo_product_L10 N f_both f_compared f_either f_one f_product f_sums (S1, r2, r3)
def Mo_sums_b44 (N : Nat) (f_both : St → Option (Int32 × St)) (f_compared : St → Option (Int32 × St)) (f_either : St → Option (Int32 × St)) (f_one : St → Option (Int32 × St)) (f_product : St → Option (Int32 × St)) (f_sums : St → Option (Int32 × St)) (k5 : (St × Int32) → Option (Int32 × St)) (S : St) (l1 : Int32) (s0 : Int32) : Option (Int32 × St) :=
  nm (si S 44 15 ((gi S 44 15) + (1 : Int32))) fun S1 =>
  bd2 (f_product S1) fun r3 S2 =>
  if s0 = 0 then
    nm ((l1 - r3)) fun x4 =>
    k5 (S2, x4)
  else
    nm ((l1 + r3)) fun x5 =>
    k5 (S2, x5)
def Mo_sums_b30 (N : Nat) (f_both : St → Option (Int32 × St)) (f_compared : St → Option (Int32 × St)) (f_either : St → Option (Int32 × St)) (f_one : St → Option (Int32 × St)) (f_product : St → Option (Int32 × St)) (f_sums : St → Option (Int32 × St)) (k5 : (St × Int32) → Option (Int32 × St)) (S : St) (l1 : Int32) : Option (Int32 × St) :=
  bd1 (Mo_byteAt S) fun r1 =>
  if r1 = (43 : Int32) then
    Mo_sums_b44 N f_both f_compared f_either f_one f_product f_sums k5 S l1 (1 : Int32)
  else
    Mo_sums_b44 N f_both f_compared f_either f_one f_product f_sums k5 S l1 (0 : Int32)
def Mo_sums_b5 (N : Nat) (f_both : St → Option (Int32 × St)) (f_compared : St → Option (Int32 × St)) (f_either : St → Option (Int32 × St)) (f_one : St → Option (Int32 × St)) (f_product : St → Option (Int32 × St)) (f_sums : St → Option (Int32 × St)) (k5 : (St × Int32) → Option (Int32 × St)) (S : St) (l1 : Int32) : Option (Int32 × St) :=
  if 0 ≤ (gi S 44 17) then
    some (l1, S)
  else
    bd1 (Mo_byteAt S) fun r1 =>
    if r1 = (43 : Int32) then
      Mo_sums_b30 N f_both f_compared f_either f_one f_product f_sums k5 S l1
    else
      bd1 (Mo_byteAt S) fun r2 =>
      if r2 = (45 : Int32) then
        Mo_sums_b30 N f_both f_compared f_either f_one f_product f_sums k5 S l1
      else
        some (l1, S)
def Mo_sums_L5 (N : Nat) (f_both : St → Option (Int32 × St)) (f_compared : St → Option (Int32 × St)) (f_either : St → Option (Int32 × St)) (f_one : St → Option (Int32 × St)) (f_product : St → Option (Int32 × St)) (f_sums : St → Option (Int32 × St)) : (St × Int32) → Option (Int32 × St) :=
  lp (fun k x => Mo_sums_b5 N f_both f_compared f_either f_one f_product f_sums k x.1 x.2) N
def Mo_sums_B (N : Nat) (f_both : St → Option (Int32 × St)) (f_compared : St → Option (Int32 × St)) (f_either : St → Option (Int32 × St)) (f_one : St → Option (Int32 × St)) (f_product : St → Option (Int32 × St)) (f_sums : St → Option (Int32 × St)) (S : St) : Option (Int32 × St) :=
  bd2 (f_product S) fun r2 S1 =>
  Mo_sums_L5 N f_both f_compared f_either f_one f_product f_sums (S1, r2)
def grp_Mo_both (N : Nat) : Nat → (St → Option (Int32 × St)) × (St → Option (Int32 × St)) × (St → Option (Int32 × St)) × (St → Option (Int32 × St)) × (St → Option (Int32 × St)) × (St → Option (Int32 × St))
  | 0 => ((fun _ => none), (fun _ => none), (fun _ => none), (fun _ => none), (fun _ => none), (fun _ => none))
  | d + 1 => (Mo_both_B N ((grp_Mo_both N d).1) ((grp_Mo_both N d).2.1) ((grp_Mo_both N d).2.2.1) ((grp_Mo_both N d).2.2.2.1) ((grp_Mo_both N d).2.2.2.2.1) ((grp_Mo_both N d).2.2.2.2.2), Mo_compared_B N ((grp_Mo_both N d).1) ((grp_Mo_both N d).2.1) ((grp_Mo_both N d).2.2.1) ((grp_Mo_both N d).2.2.2.1) ((grp_Mo_both N d).2.2.2.2.1) ((grp_Mo_both N d).2.2.2.2.2), Mo_either_B N ((grp_Mo_both N d).1) ((grp_Mo_both N d).2.1) ((grp_Mo_both N d).2.2.1) ((grp_Mo_both N d).2.2.2.1) ((grp_Mo_both N d).2.2.2.2.1) ((grp_Mo_both N d).2.2.2.2.2), Mo_one_B N ((grp_Mo_both N d).1) ((grp_Mo_both N d).2.1) ((grp_Mo_both N d).2.2.1) ((grp_Mo_both N d).2.2.2.1) ((grp_Mo_both N d).2.2.2.2.1) ((grp_Mo_both N d).2.2.2.2.2), Mo_product_B N ((grp_Mo_both N d).1) ((grp_Mo_both N d).2.1) ((grp_Mo_both N d).2.2.1) ((grp_Mo_both N d).2.2.2.1) ((grp_Mo_both N d).2.2.2.2.1) ((grp_Mo_both N d).2.2.2.2.2), Mo_sums_B N ((grp_Mo_both N d).1) ((grp_Mo_both N d).2.1) ((grp_Mo_both N d).2.2.1) ((grp_Mo_both N d).2.2.2.1) ((grp_Mo_both N d).2.2.2.2.1) ((grp_Mo_both N d).2.2.2.2.2))
def Mo_both (N : Nat) (d : Nat) : St → Option (Int32 × St) := ((grp_Mo_both N d).1)
def Mo_compared (N : Nat) (d : Nat) : St → Option (Int32 × St) := ((grp_Mo_both N d).2.1)
def Mo_either (N : Nat) (d : Nat) : St → Option (Int32 × St) := ((grp_Mo_both N d).2.2.1)
def Mo_one (N : Nat) (d : Nat) : St → Option (Int32 × St) := ((grp_Mo_both N d).2.2.2.1)
def Mo_product (N : Nat) (d : Nat) : St → Option (Int32 × St) := ((grp_Mo_both N d).2.2.2.2.1)
def Mo_sums (N : Nat) (d : Nat) : St → Option (Int32 × St) := ((grp_Mo_both N d).2.2.2.2.2)
def Mo_workOut_b96 (N : Nat) (k33 : (St × Int32 × Int32 × Int32) → Option (Int32 × St)) (S : St) (l3 : Int32) (l4 : Int32) : Option (Int32 × St) :=
  bd2 (Mo_takes S (59 : Int32)) fun r2 S1 =>
  k33 (S1, l3, l4, r2)
def Mo_workOut_b74 (N : Nat) (k33 : (St × Int32 × Int32 × Int32) → Option (Int32 × St)) (S : St) (l3 : Int32) (l4 : Int32) (l6 : Int32) (l7 : Int32) : Option (Int32 × St) :=
  if 0 ≤ (gi S 44 17) then
    Mo_workOut_b96 N k33 S l3 l4
  else
    if l7 = 0 then
      Mo_workOut_b96 N k33 S l3 l4
    else
      if l3 = 0 then
        Mo_workOut_b96 N k33 S (1 : Int32) l6
      else
        Mo_workOut_b96 N k33 S l3 l4
def Mo_workOut_b33 (N : Nat) (k33 : (St × Int32 × Int32 × Int32) → Option (Int32 × St)) (S : St) (l3 : Int32) (l4 : Int32) (l5 : Int32) : Option (Int32 × St) :=
  if l5 = 0 then
    if 0 ≤ (gi S 44 17) then
      some (l4, S)
    else
      if (gi S 44 16) ≤ (gi S 44 15) then
        some (l4, S)
      else
        bd2 (Mo_wrong S) fun r2 S1 =>
        some (r2, S1)
  else
    bd2 (Mo_either N N S) fun r4 S3 =>
    bd2 (Mo_takes S3 (63 : Int32)) fun r6 S5 =>
    if r6 = 0 then
      Mo_workOut_b74 N k33 S5 l3 l4 r4 (1 : Int32)
    else
      if r4 = 0 then
        bd2 (Mo_either N N S5) fun r8 S7 =>
        Mo_workOut_b74 N k33 S7 l3 l4 r8 (0 : Int32)
      else
        bd2 (Mo_either N N S5) fun r10 S9 =>
        Mo_workOut_b74 N k33 S9 l3 l4 r10 (1 : Int32)
def Mo_workOut_L33 (N : Nat) : (St × Int32 × Int32 × Int32) → Option (Int32 × St) :=
  lp (fun k x => Mo_workOut_b33 N k x.1 x.2.1 x.2.2.1 x.2.2.2) N
def Mo_workOut (N : Nat) (S : St) (p1 : Int32) (p2 : Int32) : Option (Int32 × St) :=
  nm (si S 44 14 p1) fun S1 =>
  nm (si S1 44 15 (0 : Int32)) fun S2 =>
  nm (si S2 44 16 p2) fun S3 =>
  nm (si S3 44 17 (-1 : Int32)) fun S4 =>
  nm (si S4 44 18 (0 : Int32)) fun S5 =>
  Mo_workOut_L33 N (S5, (0 : Int32), (0 : Int32), (1 : Int32))
def Mo_law_b37 (N : Nat) (k37 : (St × Int32) → Option (Int32 × St)) (S : St) (l2 : Int32) (l3 : Int32) : Option (Int32 × St) :=
  if l2 ≤ l3 then
    nm (si S 44 13 l2) fun S1 =>
    some ((1 : Int32), S1)
  else
    ck (inb l3 120) <|
    ck (inb l3 120) <|
    nm (si S 52 l3.toNatClampNeg (gi S 51 l3.toNatClampNeg)) fun S2 =>
    nm (l3 + (1)) fun x3 =>
    k37 (S2, x3)
def Mo_law_L37 (N : Nat) (l2 : Int32) : (St × Int32) → Option (Int32 × St) :=
  lp (fun k x => Mo_law_b37 N k x.1 l2 x.2) N
def Mo_law (N : Nat) (S : St) : Option (Int32 × St) :=
  bd2 (Mo_workOut N S (-1 : Int32) (gi S 44 11)) fun r2 S1 =>
  nm ((gi S1 44 11)) fun x3 =>
  nm (si S1 44 11 (0 : Int32)) fun S4 =>
  if (gi S4 44 17) < 0 then
    Mo_law_L37 N x3 (S4, (0 : Int32))
  else
    some (((-100 : Int32) - (gi S4 44 17)), S4)
def Mo_isOpen (S : St) (p1 : Int32) (p2 : Int32) : Option Int32 :=
  ck (inb p1 10) <|
  if p2 < (gi S 50 p1.toNatClampNeg) then
    some (0 : Int32)
  else
    ck (inb ((38 : Int32) + p1) 58) <|
    if (gi S 45 ((38 : Int32) + p1).toNatClampNeg) < 0 then
      some (1 : Int32)
    else
      ck (inb ((38 : Int32) + p1) 58) <|
      if (gi S 45 ((38 : Int32) + p1).toNatClampNeg) ≤ p2 then
        some (0 : Int32)
      else
        some (1 : Int32)
def Mo_isOf (S : St) (p1 : Int32) (p2 : Int32) : Option Int32 :=
  ck (inb p1 10) <|
  if (gi S 49 p1.toNatClampNeg) = p2 then
    some (1 : Int32)
  else
    ck (inb ((48 : Int32) + p1) 58) <|
    if (gi S 45 ((48 : Int32) + p1).toNatClampNeg) = p2 then
      some (1 : Int32)
    else
      some (0 : Int32)
def Mo_chainOf_b53 (N : Nat) (k10 : (Int32 × Int32) → Option Int32) (S : St) (l1 : Int32) (l2 : Int32) (l4 : Int32) (s0 : Int32) : Option Int32 :=
  nm ((s0 + (0 : Int32))) fun x1 =>
  nm (l4 + (1)) fun x2 =>
  k10 (x1, x2)
def Mo_chainOf_b10 (N : Nat) (k10 : (Int32 × Int32) → Option Int32) (S : St) (l1 : Int32) (l2 : Int32) (l3 : Int32) (l4 : Int32) : Option Int32 :=
  if (gi S 44 7) ≤ l4 then
    some l3
  else
    bd1 (Mo_isOf S l4 l1) fun r1 =>
    if r1 = 0 then
      Mo_chainOf_b53 N k10 S l1 l2 l4 l3
    else
      bd1 (Mo_isOpen S l4 l2) fun r2 =>
      if r2 = 0 then
        Mo_chainOf_b53 N k10 S l1 l2 l4 l3
      else
        ck (inb ((28 : Int32) + l4) 58) <|
        nm ((l3 + (gi S 45 ((28 : Int32) + l4).toNatClampNeg))) fun x3 =>
        nm (l4 + (1)) fun x4 =>
        k10 (x3, x4)
def Mo_chainOf_L10 (N : Nat) (S : St) (l1 : Int32) (l2 : Int32) : (Int32 × Int32) → Option Int32 :=
  lp (fun k x => Mo_chainOf_b10 N k S l1 l2 x.1 x.2) N
def Mo_chainOf (N : Nat) (S : St) (p1 : Int32) (p2 : Int32) : Option Int32 :=
  ck (inb p1 58) <|
  nm ((gi S 45 p1.toNatClampNeg)) fun x1 =>
  Mo_chainOf_L10 N S p1 p2 (x1, (0 : Int32))
def Mo_goesRound (S : St) (p1 : Int32) (p2 : Int32) : Option Int32 :=
  ck (inb ((6 : Int32) + p1) 58) <|
  ck (inb ((6 : Int32) + p1) 58) <|
  ck (inb ((12 : Int32) + p1) 58) <|
  bd1 (Mo_within S (Int32.toInt64 p2) (Int32.toInt64 (gi S 45 ((6 : Int32) + p1).toNatClampNeg)) (Int32.toInt64 ((gi S 45 ((6 : Int32) + p1).toNatClampNeg) + (gi S 45 ((12 : Int32) + p1).toNatClampNeg)))) fun r1 =>
  ck (isB r1) <|
  some r1
def Mo_doesRide (N : Nat) (S : St) (p1 : Int32) (p2 : Int32) : Option Int32 :=
  bd1 (Mo_chainOf N S p1 p2) fun r1 =>
  bd1 (Mo_goesRound S p1 r1) fun r2 =>
  ck (isB r2) <|
  some r2
def Mo_creakOf_b147 (N : Nat) (S : St) (l4 : Int32) : Option (Int32 × St) :=
  if 0 ≤ l4 then
    if l4 ≤ (99 : Int32) then
      some (l4, S)
    else
      some ((99 : Int32), S)
  else
    some ((0 : Int32), S)
def Mo_creakOf_b128 (N : Nat) (S : St) (l1 : Int32) (s0 : Int32) (s1 : Int32) : Option (Int32 × St) :=
  ck (inb s1 6) <|
  nm (si S 53 s1.toNatClampNeg s0) fun S1 =>
  nm (si S1 53 (5 : Int32).toNatClampNeg l1) fun S2 =>
  bd2 (Mo_workOut N S2 (0 : Int32) (gi S2 44 13)) fun r4 S3 =>
  Mo_creakOf_b147 N S3 r4
def Mo_creakOf (N : Nat) (S : St) (p1 : Int32) (p2 : Int32) : Option (Int32 × St) :=
  ck (inb ((18 : Int32) + p1) 58) <|
  nm ((p2 - (gi S 45 ((18 : Int32) + p1).toNatClampNeg))) fun x1 =>
  if x1 ≤ 0 then
    some ((0 : Int32), S)
  else
    bd1 (Mo_isOpen S p1 p2) fun r2 =>
    if r2 = 0 then
      some ((0 : Int32), S)
    else
      ck (inb ((28 : Int32) + p1) 58) <|
      nm ((x1 + (gi S 45 ((28 : Int32) + p1).toNatClampNeg))) fun x3 =>
      if (gi S 44 13) < 0 then
        Mo_creakOf_b147 N S x3
      else
        nm (si S 53 (0 : Int32).toNatClampNeg x1) fun S4 =>
        ck (inb ((28 : Int32) + p1) 58) <|
        nm (si S4 53 (1 : Int32).toNatClampNeg (gi S4 45 ((28 : Int32) + p1).toNatClampNeg)) fun S5 =>
        ck (inb p1 10) <|
        bd1 (Mo_chainOf N S5 (gi S5 49 p1.toNatClampNeg) p2) fun r6 =>
        nm (si S5 53 (2 : Int32).toNatClampNeg r6) fun S7 =>
        ck (inb p1 10) <|
        ck (inb ((6 : Int32) + (gi S7 49 p1.toNatClampNeg)) 58) <|
        nm (si S7 53 (3 : Int32).toNatClampNeg (gi S7 45 ((6 : Int32) + (gi S7 49 p1.toNatClampNeg)).toNatClampNeg)) fun S8 =>
        ck (inb ((48 : Int32) + p1) 58) <|
        if 0 ≤ (gi S8 45 ((48 : Int32) + p1).toNatClampNeg) then
          Mo_creakOf_b128 N S8 p1 (1 : Int32) (4 : Int32)
        else
          Mo_creakOf_b128 N S8 p1 (0 : Int32) (4 : Int32)
def Mo_creaksOf_b5 (N : Nat) (k5 : (St × Int32 × Int32) → Option (Int32 × St)) (S : St) (l1 : Int32) (l2 : Int32) (l3 : Int32) (l4 : Int32) : Option (Int32 × St) :=
  if (gi S 44 7) ≤ l4 then
    some (l3, S)
  else
    bd1 (Mo_isOf S l4 l1) fun r1 =>
    if r1 = 0 then
      nm ((l3 + (0 : Int32))) fun x2 =>
      nm (l4 + (1)) fun x3 =>
      k5 (S, x2, x3)
    else
      bd2 (Mo_creakOf N S l4 l2) fun r5 S4 =>
      nm ((l3 + r5)) fun x6 =>
      nm (l4 + (1)) fun x7 =>
      k5 (S4, x6, x7)
def Mo_creaksOf_L5 (N : Nat) (l1 : Int32) (l2 : Int32) : (St × Int32 × Int32) → Option (Int32 × St) :=
  lp (fun k x => Mo_creaksOf_b5 N k x.1 l1 l2 x.2.1 x.2.2) N
def Mo_creaksOf (N : Nat) (S : St) (p1 : Int32) (p2 : Int32) : Option (Int32 × St) :=
  Mo_creaksOf_L5 N p1 p2 (S, (0 : Int32), (0 : Int32))
def Mo_debtOf_b62 (N : Nat) (k5 : (Int32 × Int32) → Option Int32) (S : St) (l1 : Int32) (l2 : Int32) (l4 : Int32) (s0 : Int32) : Option Int32 :=
  nm ((s0 + (0 : Int32))) fun x1 =>
  nm (l4 + (1)) fun x2 =>
  k5 (x1, x2)
def Mo_debtOf_b5 (N : Nat) (k5 : (Int32 × Int32) → Option Int32) (S : St) (l1 : Int32) (l2 : Int32) (l3 : Int32) (l4 : Int32) : Option Int32 :=
  if (gi S 44 7) ≤ l4 then
    some l3
  else
    bd1 (Mo_isOf S l4 l1) fun r1 =>
    if r1 = 0 then
      Mo_debtOf_b62 N k5 S l1 l2 l4 l3
    else
      bd1 (Mo_isOpen S l4 l2) fun r2 =>
      if r2 = 0 then
        Mo_debtOf_b62 N k5 S l1 l2 l4 l3
      else
        ck (inb ((18 : Int32) + l4) 58) <|
        if l2 ≤ (gi S 45 ((18 : Int32) + l4).toNatClampNeg) then
          Mo_debtOf_b62 N k5 S l1 l2 l4 l3
        else
          ck (inb ((28 : Int32) + l4) 58) <|
          nm ((l3 + (gi S 45 ((28 : Int32) + l4).toNatClampNeg))) fun x3 =>
          nm (l4 + (1)) fun x4 =>
          k5 (x3, x4)
def Mo_debtOf_L5 (N : Nat) (S : St) (l1 : Int32) (l2 : Int32) : (Int32 × Int32) → Option Int32 :=
  lp (fun k x => Mo_debtOf_b5 N k S l1 l2 x.1 x.2) N
def Mo_debtOf (N : Nat) (S : St) (p1 : Int32) (p2 : Int32) : Option Int32 :=
  Mo_debtOf_L5 N S p1 p2 ((0 : Int32), (0 : Int32))
def Mo_chain (N : Nat) (S : St) (p1 : Int32) (p2 : Int32) (p3 : Int32) : Option (Int32 × St) :=
  bd1 (Mo_isOne S (Int32.toInt64 p1)) fun r1 =>
  if r1 = 0 then
    some ((-1 : Int32), S)
  else
    bd1 (Mo_isDay S (Int32.toInt64 p2)) fun r2 =>
    if r2 = 0 then
      some ((-1 : Int32), S)
    else
      bd1 (Mo_within S (Int32.toInt64 p3) (0 : Int64) (3 : Int64)) fun r3 =>
      if r3 = 0 then
        some ((-1 : Int32), S)
      else
        if p3 = 0 then
          bd1 (Mo_chainOf N S p1 p2) fun r4 =>
          some (r4, S)
        else
        if p3 = 1 then
          bd1 (Mo_doesRide N S p1 p2) fun r5 =>
          if r5 = 0 then
            some ((0 : Int32), S)
          else
            some ((1 : Int32), S)
        else
        if p3 = 2 then
          bd2 (Mo_creaksOf N S p1 p2) fun r7 S6 =>
          some (r7, S6)
        else
        bd1 (Mo_debtOf N S p1 p2) fun r8 =>
        some (r8, S)
def Mo_creak (N : Nat) (S : St) (p1 : Int32) (p2 : Int32) : Option (Int32 × St) :=
  bd1 (Mo_isPromise S (Int32.toInt64 p1)) fun r1 =>
  if r1 = 0 then
    some ((-1 : Int32), S)
  else
    bd1 (Mo_isDay S (Int32.toInt64 p2)) fun r2 =>
    if r2 = 0 then
      some ((-1 : Int32), S)
    else
      bd2 (Mo_creakOf N S p1 p2) fun r4 S3 =>
      some (r4, S3)
def Mo_rides_b55 (N : Nat) (k43 : (Int32 × Int32) → Option Int32) (S : St) (l1 : Int32) (l3 : Int32) (l4 : Int32) (l5 : Int32) (s0 : Int32) (s1 : Int32) : Option Int32 :=
  if s0 < s1 then
    if 0 ≤ l3 then
      some l4
    else
      some (-2 : Int32)
  else
    bd1 (Mo_doesRide N S l1 l5) fun r1 =>
    if r1 = 0 then
      nm (l5 + (1)) fun x2 =>
      k43 (l4, x2)
    else
      if 0 ≤ l3 then
        nm (l4 + (1)) fun x3 =>
        nm (l5 + (1)) fun x4 =>
        k43 (x3, x4)
      else
        some l5
def Mo_rides_b43 (N : Nat) (k43 : (Int32 × Int32) → Option Int32) (S : St) (l1 : Int32) (l3 : Int32) (l4 : Int32) (l5 : Int32) : Option Int32 :=
  if 0 ≤ l3 then
    Mo_rides_b55 N k43 S l1 l3 l4 l5 l3 l5
  else
    Mo_rides_b55 N k43 S l1 l3 l4 l5 (99 : Int32) l5
def Mo_rides_L43 (N : Nat) (S : St) (l1 : Int32) (l3 : Int32) : (Int32 × Int32) → Option Int32 :=
  lp (fun k x => Mo_rides_b43 N k S l1 l3 x.1 x.2) N
def Mo_rides (N : Nat) (S : St) (p1 : Int32) (p2 : Int32) (p3 : Int32) : Option Int32 :=
  bd1 (Mo_isOne S (Int32.toInt64 p1)) fun r1 =>
  if r1 = 0 then
    some (-1 : Int32)
  else
    bd1 (Mo_isDay S (Int32.toInt64 p2)) fun r2 =>
    if r2 = 0 then
      some (-1 : Int32)
    else
      if p3 = (-1 : Int32) then
        Mo_rides_L43 N S p1 p3 ((0 : Int32), p2)
      else
        bd1 (Mo_within S (Int32.toInt64 p3) (Int32.toInt64 p2) (99 : Int64)) fun r3 =>
        if r3 = 0 then
          some (-1 : Int32)
        else
          Mo_rides_L43 N S p1 p3 ((0 : Int32), p2)
def Mo_ride_b58 (N : Nat) (k33 : (Int32 × Int32 × Int32 × Int32) → Option Int32) (S : St) (l1 : Int32) (l2 : Int32) (l3 : Int32) (l4 : Int32) (l6 : Int32) (s0 : Int32) : Option Int32 :=
  if s0 ≤ l3 then
    nm (l6 + (1)) fun x1 =>
    k33 (l3, l4, s0, x1)
  else
    nm (((l6 - s0) + (1 : Int32))) fun x2 =>
    nm (l6 + (1)) fun x3 =>
    k33 (s0, x2, s0, x3)
def Mo_ride_b33 (N : Nat) (k33 : (Int32 × Int32 × Int32 × Int32) → Option Int32) (S : St) (l1 : Int32) (l2 : Int32) (l3 : Int32) (l4 : Int32) (l5 : Int32) (l6 : Int32) : Option Int32 :=
  if (99 : Int32) < l6 then
    if l2 = 0 then
      some l3
    else
      some l4
  else
    bd1 (Mo_doesRide N S l1 l6) fun r1 =>
    if r1 = 0 then
      Mo_ride_b58 N k33 S l1 l2 l3 l4 l6 (0 : Int32)
    else
      Mo_ride_b58 N k33 S l1 l2 l3 l4 l6 (l5 + (1 : Int32))
def Mo_ride_L33 (N : Nat) (S : St) (l1 : Int32) (l2 : Int32) : (Int32 × Int32 × Int32 × Int32) → Option Int32 :=
  lp (fun k x => Mo_ride_b33 N k S l1 l2 x.1 x.2.1 x.2.2.1 x.2.2.2) N
def Mo_ride (N : Nat) (S : St) (p1 : Int32) (p2 : Int32) : Option Int32 :=
  bd1 (Mo_isOne S (Int32.toInt64 p1)) fun r1 =>
  if r1 = 0 then
    some (-1 : Int32)
  else
    bd1 (Mo_within S (Int32.toInt64 p2) (0 : Int64) (1 : Int64)) fun r2 =>
    if r2 = 0 then
      some (-1 : Int32)
    else
      Mo_ride_L33 N S p1 p2 ((0 : Int32), (-2 : Int32), (0 : Int32), (0 : Int32))
def Mo_ridersOn_b4 (N : Nat) (k4 : (Int32 × Int32) → Option Int32) (S : St) (l1 : Int32) (l2 : Int32) (l3 : Int32) : Option Int32 :=
  if (gi S 44 6) ≤ l3 then
    some l2
  else
    bd1 (Mo_doesRide N S l3 l1) fun r1 =>
    if r1 = 0 then
      nm ((l2 ||| (0 : Int32))) fun x2 =>
      nm (l3 + (1)) fun x3 =>
      k4 (x2, x3)
    else
      nm ((l2 ||| ((1 : Int32) <<< (l3 &&& 31)))) fun x4 =>
      nm (l3 + (1)) fun x5 =>
      k4 (x4, x5)
def Mo_ridersOn_L4 (N : Nat) (S : St) (l1 : Int32) : (Int32 × Int32) → Option Int32 :=
  lp (fun k x => Mo_ridersOn_b4 N k S l1 x.1 x.2) N
def Mo_ridersOn (N : Nat) (S : St) (p1 : Int32) : Option Int32 :=
  Mo_ridersOn_L4 N S p1 ((0 : Int32), (0 : Int32))
def Mo_who (N : Nat) (S : St) (p1 : Int32) : Option Int32 :=
  bd1 (Mo_isDay S (Int32.toInt64 p1)) fun r1 =>
  if r1 = 0 then
    some (-1 : Int32)
  else
    bd1 (Mo_ridersOn N S p1) fun r2 =>
    some r2
def Mo_best_b19 (N : Nat) (k19 : (Int32 × Int32 × Int32) → Option Int32) (S : St) (l1 : Int32) (l2 : Int32) (l3 : Int32) (l4 : Int32) : Option Int32 :=
  if (99 : Int32) < l4 then
    if l1 = 0 then
      some l2
    else
      some l3
  else
    bd1 (Mo_ridersOn N S l4) fun r1 =>
    bd1 (Mo_bitsOf N S r1) fun r2 =>
    if r2 ≤ l3 then
      nm (l4 + (1)) fun x3 =>
      k19 (l2, l3, x3)
    else
      nm (l4 + (1)) fun x4 =>
      k19 (l4, r2, x4)
def Mo_best_L19 (N : Nat) (S : St) (l1 : Int32) : (Int32 × Int32 × Int32) → Option Int32 :=
  lp (fun k x => Mo_best_b19 N k S l1 x.1 x.2.1 x.2.2) N
def Mo_best (N : Nat) (S : St) (p1 : Int32) : Option Int32 :=
  bd1 (Mo_within S (Int32.toInt64 p1) (0 : Int64) (1 : Int64)) fun r1 =>
  if r1 = 0 then
    some (-1 : Int32)
  else
    Mo_best_L19 N S p1 ((0 : Int32), (-1 : Int32), (0 : Int32))
def Mo_ownOpen_b43 (N : Nat) (k5 : (Int32 × Int32) → Option Int32) (S : St) (l1 : Int32) (l2 : Int32) (l4 : Int32) (s0 : Int32) : Option Int32 :=
  nm ((s0 ||| (0 : Int32))) fun x1 =>
  nm (l4 + (1)) fun x2 =>
  k5 (x1, x2)
def Mo_ownOpen_b5 (N : Nat) (k5 : (Int32 × Int32) → Option Int32) (S : St) (l1 : Int32) (l2 : Int32) (l3 : Int32) (l4 : Int32) : Option Int32 :=
  if (gi S 44 7) ≤ l4 then
    some l3
  else
    ck (inb l4 10) <|
    if (gi S 49 l4.toNatClampNeg) = l1 then
      bd1 (Mo_isOpen S l4 l2) fun r1 =>
      if r1 = 0 then
        Mo_ownOpen_b43 N k5 S l1 l2 l4 l3
      else
        nm ((l3 ||| ((1 : Int32) <<< (l4 &&& 31)))) fun x2 =>
        nm (l4 + (1)) fun x3 =>
        k5 (x2, x3)
    else
      Mo_ownOpen_b43 N k5 S l1 l2 l4 l3
def Mo_ownOpen_L5 (N : Nat) (S : St) (l1 : Int32) (l2 : Int32) : (Int32 × Int32) → Option Int32 :=
  lp (fun k x => Mo_ownOpen_b5 N k S l1 l2 x.1 x.2) N
def Mo_ownOpen (N : Nat) (S : St) (p1 : Int32) (p2 : Int32) : Option Int32 :=
  Mo_ownOpen_L5 N S p1 p2 ((0 : Int32), (0 : Int32))
def Mo_linksOf_b4 (N : Nat) (k4 : (Int32 × Int32) → Option Int32) (S : St) (l1 : Int32) (l2 : Int32) (l3 : Int32) : Option Int32 :=
  if (gi S 44 7) ≤ l3 then
    some l2
  else
    bd1 (Mo_isIn S l1 l3) fun r1 =>
    if r1 = 0 then
      nm ((l2 + (0 : Int32))) fun x2 =>
      nm (l3 + (1)) fun x3 =>
      k4 (x2, x3)
    else
      ck (inb ((28 : Int32) + l3) 58) <|
      nm ((l2 + (gi S 45 ((28 : Int32) + l3).toNatClampNeg))) fun x4 =>
      nm (l3 + (1)) fun x5 =>
      k4 (x4, x5)
def Mo_linksOf_L4 (N : Nat) (S : St) (l1 : Int32) : (Int32 × Int32) → Option Int32 :=
  lp (fun k x => Mo_linksOf_b4 N k S l1 x.1 x.2) N
def Mo_linksOf (N : Nat) (S : St) (p1 : Int32) : Option Int32 :=
  Mo_linksOf_L4 N S p1 ((0 : Int32), (0 : Int32))
def Mo_lets (N : Nat) (S : St) (p1 : Int32) (p2 : Int32) (p3 : Int32) : Option Int32 :=
  bd1 (Mo_ownOpen N S p1 p2) fun r1 =>
  if (p3 &&& (r1 ^^^ (-1 : Int32))) = 0 then
    bd1 (Mo_chainOf N S p1 p2) fun r2 =>
    bd1 (Mo_linksOf N S p3) fun r3 =>
    bd1 (Mo_goesRound S p1 (r2 - r3)) fun r4 =>
    if r4 = 0 then
      some (0 : Int32)
    else
      some (1 : Int32)
  else
    some (0 : Int32)
def Mo_keepBy_b36 (N : Nat) (k36 : (Int32 × Int32) → Option Int32) (S : St) (l1 : Int32) (l2 : Int32) (l3 : Int32) (l4 : Int32) (l5 : Int32) : Option Int32 :=
  if ((1 : Int32) <<< ((gi S 44 7) &&& 31)) ≤ l5 then
    if l4 < 0 then
      some l4
    else
      if l3 = (1 : Int32) then
        some l4
      else
        bd1 (Mo_bitsOf N S l4) fun r1 =>
        some r1
  else
    bd1 (Mo_lets N S l1 l2 l5) fun r2 =>
    if r2 = 0 then
      nm (l5 + (1)) fun x3 =>
      k36 (l4, x3)
    else
      if l4 < 0 then
        nm (l5 + (1)) fun x4 =>
        k36 (l5, x4)
      else
        bd1 (Mo_bitsOf N S l5) fun r5 =>
        bd1 (Mo_bitsOf N S l4) fun r6 =>
        if r6 ≤ r5 then
          nm (l5 + (1)) fun x7 =>
          k36 (l4, x7)
        else
          nm (l5 + (1)) fun x8 =>
          k36 (l5, x8)
def Mo_keepBy_L36 (N : Nat) (S : St) (l1 : Int32) (l2 : Int32) (l3 : Int32) : (Int32 × Int32) → Option Int32 :=
  lp (fun k x => Mo_keepBy_b36 N k S l1 l2 l3 x.1 x.2) N
def Mo_keepBy (N : Nat) (S : St) (p1 : Int32) (p2 : Int32) (p3 : Int32) : Option Int32 :=
  bd1 (Mo_isOne S (Int32.toInt64 p1)) fun r1 =>
  if r1 = 0 then
    some (-1 : Int32)
  else
    bd1 (Mo_isDay S (Int32.toInt64 p2)) fun r2 =>
    if r2 = 0 then
      some (-1 : Int32)
    else
      bd1 (Mo_within S (Int32.toInt64 p3) (0 : Int64) (1 : Int64)) fun r3 =>
      if r3 = 0 then
        some (-1 : Int32)
      else
        Mo_keepBy_L36 N S p1 p2 p3 ((-2 : Int32), (0 : Int32))
def Mo_lightest_b110 (N : Nat) (k36 : (Int32 × Int32) → Option Int32) (S : St) (l1 : Int32) (l2 : Int32) (l3 : Int32) (l5 : Int32) : Option Int32 :=
  nm (l5 + (1)) fun x1 =>
  k36 (l5, x1)
def Mo_lightest_b80 (N : Nat) (k36 : (Int32 × Int32) → Option Int32) (S : St) (l1 : Int32) (l2 : Int32) (l3 : Int32) (l4 : Int32) (l5 : Int32) (s0 : Int32) : Option Int32 :=
  if l4 < 0 then
    Mo_lightest_b110 N k36 S l1 l2 l3 l5
  else
    if s0 < 0 then
      Mo_lightest_b110 N k36 S l1 l2 l3 l5
    else
      if s0 = 0 then
        bd1 (Mo_bitsOf N S l5) fun r2 =>
        bd1 (Mo_bitsOf N S l4) fun r3 =>
        if r3 ≤ r2 then
          nm (l5 + (1)) fun x4 =>
          k36 (l4, x4)
        else
          Mo_lightest_b110 N k36 S l1 l2 l3 l5
      else
        nm (l5 + (1)) fun x1 =>
        k36 (l4, x1)
def Mo_lightest_b36 (N : Nat) (k36 : (Int32 × Int32) → Option Int32) (S : St) (l1 : Int32) (l2 : Int32) (l3 : Int32) (l4 : Int32) (l5 : Int32) : Option Int32 :=
  if ((1 : Int32) <<< ((gi S 44 7) &&& 31)) ≤ l5 then
    if l4 < 0 then
      some l4
    else
      if l3 = 0 then
        some l4
      else
        bd1 (Mo_linksOf N S l4) fun r1 =>
        some r1
  else
    bd1 (Mo_lets N S l1 l2 l5) fun r2 =>
    if r2 = 0 then
      nm (l5 + (1)) fun x3 =>
      k36 (l4, x3)
    else
      if 0 ≤ l4 then
        bd1 (Mo_linksOf N S l5) fun r4 =>
        bd1 (Mo_linksOf N S l4) fun r5 =>
        Mo_lightest_b80 N k36 S l1 l2 l3 l4 l5 (r4 - r5)
      else
        Mo_lightest_b80 N k36 S l1 l2 l3 l4 l5 (0 : Int32)
def Mo_lightest_L36 (N : Nat) (S : St) (l1 : Int32) (l2 : Int32) (l3 : Int32) : (Int32 × Int32) → Option Int32 :=
  lp (fun k x => Mo_lightest_b36 N k S l1 l2 l3 x.1 x.2) N
def Mo_lightest (N : Nat) (S : St) (p1 : Int32) (p2 : Int32) (p3 : Int32) : Option Int32 :=
  bd1 (Mo_isOne S (Int32.toInt64 p1)) fun r1 =>
  if r1 = 0 then
    some (-1 : Int32)
  else
    bd1 (Mo_isDay S (Int32.toInt64 p2)) fun r2 =>
    if r2 = 0 then
      some (-1 : Int32)
    else
      bd1 (Mo_within S (Int32.toInt64 p3) (0 : Int64) (1 : Int64)) fun r3 =>
      if r3 = 0 then
        some (-1 : Int32)
      else
        Mo_lightest_L36 N S p1 p2 p3 ((-2 : Int32), (0 : Int32))
def Mo_ways_b24 (N : Nat) (k24 : (Int32 × Int32) → Option Int32) (S : St) (l1 : Int32) (l2 : Int32) (l3 : Int32) (l4 : Int32) : Option Int32 :=
  if ((1 : Int32) <<< ((gi S 44 7) &&& 31)) ≤ l4 then
    some l3
  else
    bd1 (Mo_lets N S l1 l2 l4) fun r1 =>
    if r1 = 0 then
      nm ((l3 + (0 : Int32))) fun x2 =>
      nm (l4 + (1)) fun x3 =>
      k24 (x2, x3)
    else
      nm ((l3 + (1 : Int32))) fun x4 =>
      nm (l4 + (1)) fun x5 =>
      k24 (x4, x5)
def Mo_ways_L24 (N : Nat) (S : St) (l1 : Int32) (l2 : Int32) : (Int32 × Int32) → Option Int32 :=
  lp (fun k x => Mo_ways_b24 N k S l1 l2 x.1 x.2) N
def Mo_ways (N : Nat) (S : St) (p1 : Int32) (p2 : Int32) : Option Int32 :=
  bd1 (Mo_isOne S (Int32.toInt64 p1)) fun r1 =>
  if r1 = 0 then
    some (-1 : Int32)
  else
    bd1 (Mo_isDay S (Int32.toInt64 p2)) fun r2 =>
    if r2 = 0 then
      some (-1 : Int32)
    else
      Mo_ways_L24 N S p1 p2 ((0 : Int32), (0 : Int32))
def Mo_areAbleTo_b162 (N : Nat) (k162 : (Int32) → Option (Int32 × St)) (S : St) (l2 : Int32) : Option (Int32 × St) :=
  if (gi S 44 7) ≤ l2 then
    some ((1 : Int32), S)
  else
    ck (inb l2 10) <|
    if (gi S 54 l2.toNatClampNeg) ≤ 0 then
      nm (l2 + (1)) fun x1 =>
      k162 (x1)
    else
      some ((0 : Int32), S)
def Mo_areAbleTo_L162 (N : Nat) (S : St) : (Int32) → Option (Int32 × St) :=
  lp (fun k x => Mo_areAbleTo_b162 N k S x) N
def Mo_areAbleTo_b140 (N : Nat) (k45 : (St × Int32) → Option (Int32 × St)) (S : St) (l2 : Int32) (l3 : Int32) : Option (Int32 × St) :=
  if l3 < 0 then
    nm (l2 + (1)) fun x1 =>
    k45 (S, x1)
  else
    ck (inb l3 10) <|
    ck (inb l3 10) <|
    nm (si S 54 l3.toNatClampNeg ((gi S 54 l3.toNatClampNeg) - (1 : Int32))) fun S2 =>
    nm (l2 + (1)) fun x3 =>
    k45 (S2, x3)
def Mo_areAbleTo_b56 (N : Nat) (k45 : (St × Int32) → Option (Int32 × St)) (k56 : (Int32 × Int32) → Option (Int32 × St)) (S : St) (l2 : Int32) (l3 : Int32) (l4 : Int32) : Option (Int32 × St) :=
  if (gi S 44 7) ≤ l4 then
    if l3 < 0 then
      Mo_areAbleTo_b140 N k45 S l2 l3
    else
      ck (inb ((18 : Int32) + l3) 58) <|
      if l2 ≤ (gi S 45 ((18 : Int32) + l3).toNatClampNeg) then
        Mo_areAbleTo_b140 N k45 S l2 l3
      else
        some ((0 : Int32), S)
  else
    ck (inb l4 10) <|
    if (gi S 54 l4.toNatClampNeg) ≤ 0 then
      nm (l4 + (1)) fun x1 =>
      k56 (l3, x1)
    else
      ck (inb l4 10) <|
      if l2 < (gi S 50 l4.toNatClampNeg) then
        nm (l4 + (1)) fun x2 =>
        k56 (l3, x2)
      else
        if l3 < 0 then
          nm (l4 + (1)) fun x3 =>
          k56 (l4, x3)
        else
          ck (inb ((18 : Int32) + l4) 58) <|
          ck (inb ((18 : Int32) + l3) 58) <|
          if (gi S 45 ((18 : Int32) + l3).toNatClampNeg) ≤ (gi S 45 ((18 : Int32) + l4).toNatClampNeg) then
            nm (l4 + (1)) fun x4 =>
            k56 (l3, x4)
          else
            nm (l4 + (1)) fun x5 =>
            k56 (l4, x5)
def Mo_areAbleTo_L56 (N : Nat) (k45 : (St × Int32) → Option (Int32 × St)) (S : St) (l2 : Int32) : (Int32 × Int32) → Option (Int32 × St) :=
  lp (fun k x => Mo_areAbleTo_b56 N k45 k S l2 x.1 x.2) N
def Mo_areAbleTo_b45 (N : Nat) (k45 : (St × Int32) → Option (Int32 × St)) (S : St) (l2 : Int32) : Option (Int32 × St) :=
  if (99 : Int32) < l2 then
    Mo_areAbleTo_L162 N S ((0 : Int32))
  else
    Mo_areAbleTo_L56 N k45 S l2 ((-1 : Int32), (0 : Int32))
def Mo_areAbleTo_L45 (N : Nat) : (St × Int32) → Option (Int32 × St) :=
  lp (fun k x => Mo_areAbleTo_b45 N k x.1 x.2) N
def Mo_areAbleTo_b2 (N : Nat) (k2 : (St × Int32) → Option (Int32 × St)) (S : St) (l1 : Int32) (l2 : Int32) : Option (Int32 × St) :=
  if (gi S 44 7) ≤ l2 then
    Mo_areAbleTo_L45 N (S, (0 : Int32))
  else
    bd1 (Mo_isIn S l1 l2) fun r1 =>
    if r1 = 0 then
      ck (inb l2 10) <|
      nm (si S 54 l2.toNatClampNeg (0 : Int32)) fun S2 =>
      nm (l2 + (1)) fun x3 =>
      k2 (S2, x3)
    else
      ck (inb ((28 : Int32) + l2) 58) <|
      ck (inb l2 10) <|
      nm (si S 54 l2.toNatClampNeg (gi S 45 ((28 : Int32) + l2).toNatClampNeg)) fun S4 =>
      nm (l2 + (1)) fun x5 =>
      k2 (S4, x5)
def Mo_areAbleTo_L2 (N : Nat) (l1 : Int32) : (St × Int32) → Option (Int32 × St) :=
  lp (fun k x => Mo_areAbleTo_b2 N k x.1 l1 x.2) N
def Mo_areAbleTo (N : Nat) (S : St) (p1 : Int32) : Option (Int32 × St) :=
  Mo_areAbleTo_L2 N p1 (S, (0 : Int32))
def Mo_allOf_b4 (N : Nat) (k4 : (Int32 × Int32) → Option Int32) (S : St) (l1 : Int32) (l2 : Int32) (l3 : Int32) : Option Int32 :=
  if (gi S 44 7) ≤ l3 then
    some l2
  else
    ck (inb l3 10) <|
    if (gi S 49 l3.toNatClampNeg) = l1 then
      nm ((l2 ||| ((1 : Int32) <<< (l3 &&& 31)))) fun x3 =>
      nm (l3 + (1)) fun x4 =>
      k4 (x3, x4)
    else
      nm ((l2 ||| (0 : Int32))) fun x1 =>
      nm (l3 + (1)) fun x2 =>
      k4 (x1, x2)
def Mo_allOf_L4 (N : Nat) (S : St) (l1 : Int32) : (Int32 × Int32) → Option Int32 :=
  lp (fun k x => Mo_allOf_b4 N k S l1 x.1 x.2) N
def Mo_allOf (N : Nat) (S : St) (p1 : Int32) : Option Int32 :=
  Mo_allOf_L4 N S p1 ((0 : Int32), (0 : Int32))
def Mo_can (N : Nat) (S : St) (p1 : Int32) (p2 : Int32) : Option (Int32 × St) :=
  bd1 (Mo_isOne S (Int32.toInt64 p1)) fun r1 =>
  if r1 = 0 then
    some ((-1 : Int32), S)
  else
    bd1 (Mo_within S (Int32.toInt64 p2) (0 : Int64) (Int32.toInt64 (((1 : Int32) <<< ((gi S 44 7) &&& 31)) - (1 : Int32)))) fun r2 =>
    if r2 = 0 then
      some ((-1 : Int32), S)
    else
      bd1 (Mo_allOf N S p1) fun r3 =>
      if (p2 &&& (r3 ^^^ (-1 : Int32))) = 0 then
        bd2 (Mo_areAbleTo N S p2) fun r5 S4 =>
        if r5 = 0 then
          some ((0 : Int32), S4)
        else
          some ((1 : Int32), S4)
      else
        some ((-1 : Int32), S)
def Mo_most_b26 (N : Nat) (k26 : (St × Int32 × Int32) → Option (Int32 × St)) (S : St) (l1 : Int32) (l2 : Int32) (l3 : Int32) (l4 : Int32) : Option (Int32 × St) :=
  if ((1 : Int32) <<< ((gi S 44 7) &&& 31)) ≤ l4 then
    if l2 = 0 then
      bd1 (Mo_bitsOf N S l3) fun r1 =>
      some (r1, S)
    else
      some (l3, S)
  else
    bd1 (Mo_allOf N S l1) fun r2 =>
    if (l4 &&& (r2 ^^^ (-1 : Int32))) = 0 then
      bd1 (Mo_bitsOf N S l4) fun r4 =>
      bd1 (Mo_bitsOf N S l3) fun r5 =>
      if r4 ≤ r5 then
        nm (l4 + (1)) fun x6 =>
        k26 (S, l3, x6)
      else
        bd2 (Mo_areAbleTo N S l4) fun r8 S7 =>
        if r8 = 0 then
          nm (l4 + (1)) fun x9 =>
          k26 (S7, l3, x9)
        else
          nm (l4 + (1)) fun x10 =>
          k26 (S7, l4, x10)
    else
      nm (l4 + (1)) fun x3 =>
      k26 (S, l3, x3)
def Mo_most_L26 (N : Nat) (l1 : Int32) (l2 : Int32) : (St × Int32 × Int32) → Option (Int32 × St) :=
  lp (fun k x => Mo_most_b26 N k x.1 l1 l2 x.2.1 x.2.2) N
def Mo_most (N : Nat) (S : St) (p1 : Int32) (p2 : Int32) : Option (Int32 × St) :=
  bd1 (Mo_isOne S (Int32.toInt64 p1)) fun r1 =>
  if r1 = 0 then
    some ((-1 : Int32), S)
  else
    bd1 (Mo_within S (Int32.toInt64 p2) (0 : Int64) (1 : Int64)) fun r2 =>
    if r2 = 0 then
      some ((-1 : Int32), S)
    else
      Mo_most_L26 N p1 p2 (S, (0 : Int32), (1 : Int32))
def Mo_isClash_b12 (N : Nat) (k12 : (St × Int32) → Option (Int32 × St)) (S : St) (l1 : Int32) (l2 : Int32) : Option (Int32 × St) :=
  if (gi S 44 7) ≤ l2 then
    some ((1 : Int32), S)
  else
    bd1 (Mo_isIn S l1 l2) fun r1 =>
    if r1 = 0 then
      nm (l2 + (1)) fun x2 =>
      k12 (S, x2)
    else
      bd2 (Mo_areAbleTo N S (l1 &&& (((1 : Int32) <<< (l2 &&& 31)) ^^^ (-1 : Int32)))) fun r4 S3 =>
      if r4 = 0 then
        some ((0 : Int32), S3)
      else
        nm (l2 + (1)) fun x5 =>
        k12 (S3, x5)
def Mo_isClash_L12 (N : Nat) (l1 : Int32) : (St × Int32) → Option (Int32 × St) :=
  lp (fun k x => Mo_isClash_b12 N k x.1 l1 x.2) N
def Mo_isClash (N : Nat) (S : St) (p1 : Int32) : Option (Int32 × St) :=
  bd2 (Mo_areAbleTo N S p1) fun r2 S1 =>
  if r2 = 0 then
    Mo_isClash_L12 N p1 (S1, (0 : Int32))
  else
    some ((0 : Int32), S1)
def Mo_clashes_b30 (N : Nat) (k30 : (St × Int32 × Int32 × Int32) → Option (Int32 × St)) (S : St) (l1 : Int32) (l2 : Int32) (l3 : Int32) (l4 : Int32) (l5 : Int32) : Option (Int32 × St) :=
  if ((1 : Int32) <<< ((gi S 44 7) &&& 31)) ≤ l5 then
    if l2 = 0 then
      some (l3, S)
    else
      some (l4, S)
  else
    bd1 (Mo_allOf N S l1) fun r1 =>
    if (l5 &&& (r1 ^^^ (-1 : Int32))) = 0 then
      bd2 (Mo_isClash N S l5) fun r4 S3 =>
      if r4 = 0 then
        nm (l5 + (1)) fun x5 =>
        k30 (S3, l3, l4, x5)
      else
        if l3 = 0 then
          nm (l3 + (1)) fun x8 =>
          nm (l5 + (1)) fun x9 =>
          k30 (S3, x8, l5, x9)
        else
          nm (l3 + (1)) fun x6 =>
          nm (l5 + (1)) fun x7 =>
          k30 (S3, x6, l4, x7)
    else
      nm (l5 + (1)) fun x2 =>
      k30 (S, l3, l4, x2)
def Mo_clashes_L30 (N : Nat) (l1 : Int32) (l2 : Int32) : (St × Int32 × Int32 × Int32) → Option (Int32 × St) :=
  lp (fun k x => Mo_clashes_b30 N k x.1 l1 l2 x.2.1 x.2.2.1 x.2.2.2) N
def Mo_clashes (N : Nat) (S : St) (p1 : Int32) (p2 : Int32) : Option (Int32 × St) :=
  bd1 (Mo_isOne S (Int32.toInt64 p1)) fun r1 =>
  if r1 = 0 then
    some ((-1 : Int32), S)
  else
    bd1 (Mo_within S (Int32.toInt64 p2) (0 : Int64) (1 : Int64)) fun r2 =>
    if r2 = 0 then
      some ((-1 : Int32), S)
    else
      Mo_clashes_L30 N p1 p2 (S, (0 : Int32), (-2 : Int32), (1 : Int32))
def Mo_ridersBy (N : Nat) (S : St) (p1 : Int32) (p2 : Int32) (p3 : Int32) : Option (Int32 × St) :=
  ck (inb p1 10) <|
  nm ((gi S 49 p1.toNatClampNeg)) fun x1 =>
  ck (inb p1 10) <|
  nm (si S 49 p1.toNatClampNeg p2) fun S2 =>
  bd1 (Mo_ridersOn N S2 p3) fun r3 =>
  bd1 (Mo_bitsOf N S2 r3) fun r4 =>
  ck (inb p1 10) <|
  nm (si S2 49 p1.toNatClampNeg x1) fun S5 =>
  some (r4, S5)
def Mo_hand (N : Nat) (S : St) (p1 : Int32) (p2 : Int32) : Option (Int32 × St) :=
  if p1 < 0 then
    some ((-1 : Int32), S)
  else
    bd1 (Mo_isPromise S (Int32.toInt64 (p1 / (100 : Int32)))) fun r1 =>
    if r1 = 0 then
      some ((-1 : Int32), S)
    else
      bd1 (Mo_isOne S (Int32.toInt64 (p1 - p1 / (100 : Int32) * (100 : Int32)))) fun r2 =>
      if r2 = 0 then
        some ((-1 : Int32), S)
      else
        ck (inb (p1 / (100 : Int32)) 10) <|
        if (p1 - p1 / (100 : Int32) * (100 : Int32)) = (gi S 49 (p1 / (100 : Int32)).toNatClampNeg) then
          some ((-1 : Int32), S)
        else
          bd1 (Mo_isDay S (Int32.toInt64 p2)) fun r3 =>
          if r3 = 0 then
            some ((-1 : Int32), S)
          else
            ck (inb ((48 : Int32) + (p1 / (100 : Int32))) 58) <|
            if (gi S 45 ((48 : Int32) + (p1 / (100 : Int32))).toNatClampNeg) < 0 then
              bd2 (Mo_ridersBy N S (p1 / (100 : Int32)) (p1 - p1 / (100 : Int32) * (100 : Int32)) p2) fun r5 S4 =>
              some (r5, S4)
            else
              some ((-5 : Int32), S)
def Mo_handBest_b112 (N : Nat) (k48 : (St × Int32 × Int32 × Int32) → Option (Int32 × St)) (S : St) (l1 : Int32) (l2 : Int32) (l4 : Int32) (l5 : Int32) (l6 : Int32) (l7 : Int32) (s0 : Int32) : Option (Int32 × St) :=
  if l7 ≤ l4 then
    nm (l6 + (1)) fun x1 =>
    k48 (S, s0, l4, x1)
  else
    nm (l6 + (1)) fun x2 =>
    k48 (S, s0, l7, x2)
def Mo_handBest_b48 (N : Nat) (k36 : (St × Int32 × Int32 × Int32) → Option (Int32 × St)) (k48 : (St × Int32 × Int32 × Int32) → Option (Int32 × St)) (S : St) (l1 : Int32) (l2 : Int32) (l5 : Int32) (l3 : Int32) (l4 : Int32) (l6 : Int32) : Option (Int32 × St) :=
  if (gi S 44 6) ≤ l6 then
    nm (l5 + (1)) fun x1 =>
    k36 (S, l3, l4, x1)
  else
    ck (inb l5 10) <|
    if l6 = (gi S 49 l5.toNatClampNeg) then
      nm (l6 + (1)) fun x2 =>
      k48 (S, l3, l4, x2)
    else
      ck (inb ((48 : Int32) + l5) 58) <|
      if 0 ≤ (gi S 45 ((48 : Int32) + l5).toNatClampNeg) then
        nm (l6 + (1)) fun x3 =>
        k48 (S, l3, l4, x3)
      else
        bd2 (Mo_ridersBy N S l5 l6 l1) fun r5 S4 =>
        if r5 ≤ l4 then
          Mo_handBest_b112 N k48 S4 l1 l2 l4 l5 l6 r5 l3
        else
          Mo_handBest_b112 N k48 S4 l1 l2 l4 l5 l6 r5 (((100 : Int32) * l5) + l6)
def Mo_handBest_L48 (N : Nat) (k36 : (St × Int32 × Int32 × Int32) → Option (Int32 × St)) (l1 : Int32) (l2 : Int32) (l5 : Int32) : (St × Int32 × Int32 × Int32) → Option (Int32 × St) :=
  lp (fun k x => Mo_handBest_b48 N k36 k x.1 l1 l2 l5 x.2.1 x.2.2.1 x.2.2.2) N
def Mo_handBest_b36 (N : Nat) (k36 : (St × Int32 × Int32 × Int32) → Option (Int32 × St)) (S : St) (l1 : Int32) (l2 : Int32) (l3 : Int32) (l4 : Int32) (l5 : Int32) : Option (Int32 × St) :=
  if (gi S 44 7) ≤ l5 then
    if l3 < 0 then
      some (l3, S)
    else
      if l2 = 0 then
        some (l3, S)
      else
        some (l4, S)
  else
    Mo_handBest_L48 N k36 l1 l2 l5 (S, l3, l4, (0 : Int32))
def Mo_handBest_L36 (N : Nat) (l1 : Int32) (l2 : Int32) : (St × Int32 × Int32 × Int32) → Option (Int32 × St) :=
  lp (fun k x => Mo_handBest_b36 N k x.1 l1 l2 x.2.1 x.2.2.1 x.2.2.2) N
def Mo_handBest (N : Nat) (S : St) (p1 : Int32) (p2 : Int32) : Option (Int32 × St) :=
  bd1 (Mo_isDay S (Int32.toInt64 p1)) fun r1 =>
  if r1 = 0 then
    some ((-1 : Int32), S)
  else
    bd1 (Mo_within S (Int32.toInt64 p2) (0 : Int64) (1 : Int64)) fun r2 =>
    if r2 = 0 then
      some ((-1 : Int32), S)
    else
      bd1 (Mo_ridersOn N S p1) fun r3 =>
      bd1 (Mo_bitsOf N S r3) fun r4 =>
      Mo_handBest_L36 N p1 p2 (S, (-2 : Int32), r4, (0 : Int32))
def Mo_shortsIs (S : St) (p1 : Int32) : Option Int32 :=
  bd1 (Mo_isShelf S p1) fun r1 =>
  if r1 = 0 then
    some (-1 : Int32)
  else
    ck (inb p1 6) <|
    if 0 ≤ (gi S 61 p1.toNatClampNeg) then
      ck (inb p1 6) <|
      if (gi S 61 p1.toNatClampNeg) = (51 : Int32) then
        some (1 : Int32)
      else
        some (-12 : Int32)
    else
      some (-11 : Int32)
def Mo_firstFalse_b2 (N : Nat) (k2 : (St × Int32) → Option (Int32 × St)) (S : St) (l1 : Int32) (l2 : Int32) (l3 : Int32) : Option (Int32 × St) :=
  ck (inb l1 6) <|
  if (gi S 62 l1.toNatClampNeg) ≤ l3 then
    some ((-2 : Int32), S)
  else
    if (99 : Int32) < l3 then
      some (l3, S)
    else
      bd2 (Mo_creaksOf N S l2 l3) fun r2 S1 =>
      ck (inb (((60 : Int32) * l1) + l3) 360) <|
      if (lg_cmp (Int32.toInt64 r2) (gl S1 63 (((60 : Int32) * l1) + l3).toNatClampNeg)) = 0 then
        nm (l3 + (1)) fun x3 =>
        k2 (S1, x3)
      else
        some (l3, S1)
def Mo_firstFalse_L2 (N : Nat) (l1 : Int32) (l2 : Int32) : (St × Int32) → Option (Int32 × St) :=
  lp (fun k x => Mo_firstFalse_b2 N k x.1 l1 l2 x.2) N
def Mo_firstFalse (N : Nat) (S : St) (p1 : Int32) (p2 : Int32) : Option (Int32 × St) :=
  Mo_firstFalse_L2 N p1 p2 (S, (0 : Int32))
def Mo_judge (N : Nat) (S : St) (p1 : Int32) (p2 : Int32) : Option (Int32 × St) :=
  bd1 (Mo_shortsIs S p1) fun r1 =>
  if r1 = (-1 : Int32) then
    some ((-1 : Int32), S)
  else
    bd1 (Mo_isOne S (Int32.toInt64 p2)) fun r2 =>
    if r2 = 0 then
      some ((-1 : Int32), S)
    else
      bd1 (Mo_shortsIs S p1) fun r3 =>
      if 0 ≤ r3 then
        bd2 (Mo_firstFalse N S p1 p2) fun r5 S4 =>
        some (r5, S4)
      else
        bd1 (Mo_shortsIs S p1) fun r6 =>
        some (r6, S)
def Mo_keptOn_b61 (N : Nat) (k61 : (St × Int32 × Int32 × Int32) → Option (Int32 × St)) (S : St) (l1 : Int32) (l2 : Int32) (l3 : Int32) (l4 : Int32) (l5 : Int32) (l6 : Int32) (l7 : Int32) (l8 : Int32) : Option (Int32 × St) :=
  if (99 : Int32) < l8 then
    ck (inb ((38 : Int32) + l2) 58) <|
    nm (si S 45 ((38 : Int32) + l2).toNatClampNeg l5) fun S1 =>
    if l4 = 0 then
      some (l6, S1)
    else
      some (l7, S1)
  else
    ck (inb ((38 : Int32) + l2) 58) <|
    nm (si S 45 ((38 : Int32) + l2).toNatClampNeg l8) fun S2 =>
    bd2 (Mo_firstFalse N S2 l1 l3) fun r4 S3 =>
    if r4 = (-2 : Int32) then
      if l6 = 0 then
        nm (l6 + (1)) fun x8 =>
        nm (l8 + (1)) fun x9 =>
        k61 (S3, x8, l8, x9)
      else
        nm (l6 + (1)) fun x6 =>
        nm (l8 + (1)) fun x7 =>
        k61 (S3, x6, l7, x7)
    else
      nm (l8 + (1)) fun x5 =>
      k61 (S3, l6, l7, x5)
def Mo_keptOn_L61 (N : Nat) (l1 : Int32) (l2 : Int32) (l3 : Int32) (l4 : Int32) (l5 : Int32) : (St × Int32 × Int32 × Int32) → Option (Int32 × St) :=
  lp (fun k x => Mo_keptOn_b61 N k x.1 l1 l2 l3 l4 l5 x.2.1 x.2.2.1 x.2.2.2) N
def Mo_keptOn (N : Nat) (S : St) (p1 : Int32) (p2 : Int32) (p3 : Int32) (p4 : Int32) : Option (Int32 × St) :=
  bd1 (Mo_shortsIs S p1) fun r1 =>
  if r1 < 0 then
    some ((-2000000000 : Int32), S)
  else
    bd1 (Mo_isPromise S (Int32.toInt64 p2)) fun r2 =>
    if r2 = 0 then
      some ((-2000000000 : Int32), S)
    else
      bd1 (Mo_isOne S (Int32.toInt64 p3)) fun r3 =>
      if r3 = 0 then
        some ((-2000000000 : Int32), S)
      else
        bd1 (Mo_within S (Int32.toInt64 p4) (0 : Int64) (1 : Int64)) fun r4 =>
        if r4 = 0 then
          some ((-2000000000 : Int32), S)
        else
          ck (inb ((38 : Int32) + p2) 58) <|
          nm ((gi S 45 ((38 : Int32) + p2).toNatClampNeg)) fun x5 =>
          Mo_keptOn_L61 N p1 p2 p3 p4 x5 (S, (0 : Int32), (-9 : Int32), (-1 : Int32))
def Mo_whose_b18 (N : Nat) (k18 : (St × Int32 × Int32) → Option (Int32 × St)) (S : St) (l1 : Int32) (l2 : Int32) (l3 : Int32) : Option (Int32 × St) :=
  if (gi S 44 6) ≤ l3 then
    some (l2, S)
  else
    bd2 (Mo_firstFalse N S l1 l3) fun r2 S1 =>
    if r2 = (-2 : Int32) then
      nm ((l2 ||| ((1 : Int32) <<< (l3 &&& 31)))) fun x5 =>
      nm (l3 + (1)) fun x6 =>
      k18 (S1, x5, x6)
    else
      nm ((l2 ||| (0 : Int32))) fun x3 =>
      nm (l3 + (1)) fun x4 =>
      k18 (S1, x3, x4)
def Mo_whose_L18 (N : Nat) (l1 : Int32) : (St × Int32 × Int32) → Option (Int32 × St) :=
  lp (fun k x => Mo_whose_b18 N k x.1 l1 x.2.1 x.2.2) N
def Mo_whose (N : Nat) (S : St) (p1 : Int32) : Option (Int32 × St) :=
  bd1 (Mo_shortsIs S p1) fun r1 =>
  if 0 ≤ r1 then
    Mo_whose_L18 N p1 (S, (0 : Int32), (0 : Int32))
  else
    bd1 (Mo_shortsIs S p1) fun r2 =>
    some (r2, S)
def Mo_winsFrom_b63 (N : Nat) (f_winsFrom : St → Int32 → Int32 → Int32 → Int32 → Int32 → Option Int32) (k63 : (Int32) → Option Int32) (S : St) (l1 : Int32) (l2 : Int32) (l3 : Int32) (l4 : Int32) (l5 : Int32) (l6 : Int32) : Option Int32 :=
  if (gi S 44 7) ≤ l6 then
    bd1 (f_winsFrom S l1 (l2 + (1 : Int32)) l3 l4 l5) fun r1 =>
    ck (isB r1) <|
    some r1
  else
    bd1 (Mo_isIn S l4 l6) fun r2 =>
    if r2 = 0 then
      nm (l6 + (1)) fun x3 =>
      k63 (x3)
    else
      ck (inb ((28 : Int32) + l6) 58) <|
      bd1 (f_winsFrom S l1 (l2 + (1 : Int32)) l3 (l4 &&& (((1 : Int32) <<< (l6 &&& 31)) ^^^ (-1 : Int32))) (l5 - (gi S 45 ((28 : Int32) + l6).toNatClampNeg))) fun r4 =>
      if r4 = 0 then
        nm (l6 + (1)) fun x5 =>
        k63 (x5)
      else
        some (1 : Int32)
def Mo_winsFrom_L63 (N : Nat) (f_winsFrom : St → Int32 → Int32 → Int32 → Int32 → Int32 → Option Int32) (S : St) (l1 : Int32) (l2 : Int32) (l3 : Int32) (l4 : Int32) (l5 : Int32) : (Int32) → Option Int32 :=
  lp (fun k x => Mo_winsFrom_b63 N f_winsFrom k S l1 l2 l3 l4 l5 x) N
def Mo_winsFrom_B (N : Nat) (f_winsFrom : St → Int32 → Int32 → Int32 → Int32 → Int32 → Option Int32) (S : St) (p1 : Int32) (p2 : Int32) (p3 : Int32) (p4 : Int32) (p5 : Int32) : Option Int32 :=
  if p2 = p3 then
    bd1 (Mo_goesRound S p1 p5) fun r3 =>
    ck (isB r3) <|
    some r3
  else
    if (p2 - p2 / (2 : Int32) * (2 : Int32)) = (1 : Int32) then
      bd1 (f_winsFrom S p1 (p2 + (1 : Int32)) p3 p4 (p5 + (1 : Int32))) fun r1 =>
      if r1 = 0 then
        some (0 : Int32)
      else
        bd1 (f_winsFrom S p1 (p2 + (1 : Int32)) p3 p4 p5) fun r2 =>
        if r2 = 0 then
          some (0 : Int32)
        else
          some (1 : Int32)
    else
      Mo_winsFrom_L63 N f_winsFrom S p1 p2 p3 p4 p5 ((0 : Int32))
def grp_Mo_winsFrom (N : Nat) : Nat → (St → Int32 → Int32 → Int32 → Int32 → Int32 → Option Int32)
  | 0 => ((fun _ _ _ _ _ _ => none))
  | d + 1 => (Mo_winsFrom_B N (grp_Mo_winsFrom N d))
def Mo_winsFrom (N : Nat) (d : Nat) : St → Int32 → Int32 → Int32 → Int32 → Int32 → Option Int32 := (grp_Mo_winsFrom N d)
def Mo_byTurns_b111 (N : Nat) (k111 : (Int32) → Option Int32) (S : St) (l1 : Int32) (l4 : Int32) (l5 : Int32) (l6 : Int32) (l7 : Int32) (l8 : Int32) : Option Int32 :=
  if (gi S 44 7) ≤ l8 then
    some (10 : Int32)
  else
    bd1 (Mo_isIn S l4 l8) fun r1 =>
    if r1 = 0 then
      nm (l8 + (1)) fun x2 =>
      k111 (x2)
    else
      ck (inb ((28 : Int32) + l8) 58) <|
      bd1 (Mo_winsFrom N N S l1 (1 : Int32) l6 (l4 &&& (((1 : Int32) <<< (l8 &&& 31)) ^^^ (-1 : Int32))) (l5 - (gi S 45 ((28 : Int32) + l8).toNatClampNeg))) fun r3 =>
      if r3 = l7 then
        some l8
      else
        nm (l8 + (1)) fun x4 =>
        k111 (x4)
def Mo_byTurns_L111 (N : Nat) (S : St) (l1 : Int32) (l4 : Int32) (l5 : Int32) (l6 : Int32) (l7 : Int32) : (Int32) → Option Int32 :=
  lp (fun k x => Mo_byTurns_b111 N k S l1 l4 l5 l6 l7 x) N
def Mo_byTurns (N : Nat) (S : St) (p1 : Int32) (p2 : Int32) (p3 : Int32) : Option Int32 :=
  bd1 (Mo_isOne S (Int32.toInt64 p1)) fun r1 =>
  if r1 = 0 then
    some (-1 : Int32)
  else
    if p2 < 0 then
      some (-1 : Int32)
    else
      bd1 (Mo_isDay S (Int32.toInt64 (p2 / (10 : Int32)))) fun r2 =>
      if r2 = 0 then
        some (-1 : Int32)
      else
        bd1 (Mo_within S (Int32.toInt64 (p2 - p2 / (10 : Int32) * (10 : Int32))) (1 : Int64) (6 : Int64)) fun r3 =>
        if r3 = 0 then
          some (-1 : Int32)
        else
          bd1 (Mo_within S (Int32.toInt64 p3) (0 : Int64) (1 : Int64)) fun r4 =>
          if r4 = 0 then
            some (-1 : Int32)
          else
            bd1 (Mo_ownOpen N S p1 (p2 / (10 : Int32))) fun r5 =>
            bd1 (Mo_chainOf N S p1 (p2 / (10 : Int32))) fun r6 =>
            nm ((p2 - p2 / (10 : Int32) * (10 : Int32))) fun x7 =>
            bd1 (Mo_winsFrom N N S p1 (0 : Int32) x7 r5 r6) fun r8 =>
            if p3 = 0 then
              if r8 = 0 then
                some (0 : Int32)
              else
                some (1 : Int32)
            else
              Mo_byTurns_L111 N S p1 r5 r6 x7 r8 ((0 : Int32))
def Mo_loudest_b32 (N : Nat) (k19 : (St × Int32 × Int32 × Int32) → Option (Int32 × St)) (k32 : (St × Int32 × Int32) → Option (Int32 × St)) (S : St) (l1 : Int32) (l2 : Int32) (l3 : Int32) (l4 : Int32) (l5 : Int32) (l6 : Int32) : Option (Int32 × St) :=
  if (gi S 44 7) ≤ l6 then
    if l5 ≤ l3 then
      nm (l4 + (1)) fun x1 =>
      k19 (S, l2, l3, x1)
    else
      nm (l4 + (1)) fun x2 =>
      k19 (S, l4, l5, x2)
  else
    bd2 (Mo_creakOf N S l6 l4) fun r4 S3 =>
    nm ((l5 + r4)) fun x5 =>
    nm (l6 + (1)) fun x6 =>
    k32 (S3, x5, x6)
def Mo_loudest_L32 (N : Nat) (k19 : (St × Int32 × Int32 × Int32) → Option (Int32 × St)) (l1 : Int32) (l2 : Int32) (l3 : Int32) (l4 : Int32) : (St × Int32 × Int32) → Option (Int32 × St) :=
  lp (fun k x => Mo_loudest_b32 N k19 k x.1 l1 l2 l3 l4 x.2.1 x.2.2) N
def Mo_loudest_b19 (N : Nat) (k19 : (St × Int32 × Int32 × Int32) → Option (Int32 × St)) (S : St) (l1 : Int32) (l2 : Int32) (l3 : Int32) (l4 : Int32) : Option (Int32 × St) :=
  if (99 : Int32) < l4 then
    if l1 = 0 then
      some (l2, S)
    else
      some (l3, S)
  else
    Mo_loudest_L32 N k19 l1 l2 l3 l4 (S, (0 : Int32), (0 : Int32))
def Mo_loudest_L19 (N : Nat) (l1 : Int32) : (St × Int32 × Int32 × Int32) → Option (Int32 × St) :=
  lp (fun k x => Mo_loudest_b19 N k x.1 l1 x.2.1 x.2.2.1 x.2.2.2) N
def Mo_loudest (N : Nat) (S : St) (p1 : Int32) : Option (Int32 × St) :=
  bd1 (Mo_within S (Int32.toInt64 p1) (0 : Int64) (1 : Int64)) fun r1 =>
  if r1 = 0 then
    some ((-1 : Int32), S)
  else
    Mo_loudest_L19 N p1 (S, (0 : Int32), (-1 : Int32), (0 : Int32))
def Mo_drawn_b221 (N : Nat) (k221 : (St × Int32) → Option (Int32 × St)) (S : St) (l6 : Int32) (l7 : Int32) : Option (Int32 × St) :=
  if (gi S 44 7) ≤ l7 then
    some (l6, S)
  else
    ck (inb l7 10) <|
    ck (inb ((38 : Int32) + l7) 58) <|
    nm (si S 45 ((38 : Int32) + l7).toNatClampNeg (gi S 55 l7.toNatClampNeg)) fun S1 =>
    nm (l7 + (1)) fun x2 =>
    k221 (S1, x2)
def Mo_drawn_L221 (N : Nat) (l6 : Int32) : (St × Int32) → Option (Int32 × St) :=
  lp (fun k x => Mo_drawn_b221 N k x.1 l6 x.2) N
def Mo_drawn_b183 (N : Nat) (k82 : (St × Int32 × Int32 × Int32) → Option (Int32 × St)) (k169 : (Int32 × Int32) → Option (Int32 × St)) (S : St) (l2 : Int32) (l3 : Int32) (l4 : Int32) (l5 : Int32) (l6 : Int32) (l7 : Int32) (l8 : Int32) (s0 : Int32) (s1 : Int32) : Option (Int32 × St) :=
  if s0 < s1 then
    nm (l7 + (1)) fun x1 =>
    k82 (S, l5, l6, x1)
  else
    bd1 (Mo_doesRide N S l3 l8) fun r2 =>
    if r2 = 0 then
      nm ((l6 + (0 : Int32))) fun x3 =>
      nm (l8 + (1)) fun x4 =>
      k169 (x3, x4)
    else
      nm ((l6 + (1 : Int32))) fun x5 =>
      nm (l8 + (1)) fun x6 =>
      k169 (x5, x6)
def Mo_drawn_b169 (N : Nat) (k82 : (St × Int32 × Int32 × Int32) → Option (Int32 × St)) (k169 : (Int32 × Int32) → Option (Int32 × St)) (S : St) (l2 : Int32) (l3 : Int32) (l4 : Int32) (l5 : Int32) (l7 : Int32) (l6 : Int32) (l8 : Int32) : Option (Int32 × St) :=
  if 0 ≤ l4 then
    Mo_drawn_b183 N k82 k169 S l2 l3 l4 l5 l6 l7 l8 l4 l8
  else
    Mo_drawn_b183 N k82 k169 S l2 l3 l4 l5 l6 l7 l8 (99 : Int32) l8
def Mo_drawn_L169 (N : Nat) (k82 : (St × Int32 × Int32 × Int32) → Option (Int32 × St)) (S : St) (l2 : Int32) (l3 : Int32) (l4 : Int32) (l5 : Int32) (l7 : Int32) : (Int32 × Int32) → Option (Int32 × St) :=
  lp (fun k x => Mo_drawn_b169 N k82 k S l2 l3 l4 l5 l7 x.1 x.2) N
def Mo_drawn_b91 (N : Nat) (k82 : (St × Int32 × Int32 × Int32) → Option (Int32 × St)) (k91 : (St × Int32 × Int32) → Option (Int32 × St)) (S : St) (l2 : Int32) (l3 : Int32) (l4 : Int32) (l6 : Int32) (l7 : Int32) (l5 : Int32) (l8 : Int32) : Option (Int32 × St) :=
  if (gi S 44 7) ≤ l8 then
    if 0 ≤ l4 then
      Mo_drawn_L169 N k82 S l2 l3 l4 l5 l7 (l6, l4)
    else
      Mo_drawn_L169 N k82 S l2 l3 l4 l5 l7 (l6, (0 : Int32))
  else
    nm (((l5 * (1103515245 : Int32)) + (12345 : Int32))) fun x1 =>
    nm ((((x1.toUInt32 >>> ((8 : Int32).toUInt32 &&& Int32.toUInt32 31)).toInt32) - ((x1.toUInt32 >>> ((8 : Int32).toUInt32 &&& Int32.toUInt32 31)).toInt32) / (100 : Int32) * (100 : Int32))) fun x2 =>
    ck (inb l8 10) <|
    if x2 < (gi S 50 l8.toNatClampNeg) then
      ck (inb ((38 : Int32) + l8) 58) <|
      nm (si S 45 ((38 : Int32) + l8).toNatClampNeg (-1 : Int32)) fun S3 =>
      nm (l8 + (1)) fun x4 =>
      k91 (S3, x1, x4)
    else
      ck (inb ((38 : Int32) + l8) 58) <|
      nm (si S 45 ((38 : Int32) + l8).toNatClampNeg x2) fun S5 =>
      nm (l8 + (1)) fun x6 =>
      k91 (S5, x1, x6)
def Mo_drawn_L91 (N : Nat) (k82 : (St × Int32 × Int32 × Int32) → Option (Int32 × St)) (l2 : Int32) (l3 : Int32) (l4 : Int32) (l6 : Int32) (l7 : Int32) : (St × Int32 × Int32) → Option (Int32 × St) :=
  lp (fun k x => Mo_drawn_b91 N k82 k x.1 l2 l3 l4 l6 l7 x.2.1 x.2.2) N
def Mo_drawn_b82 (N : Nat) (k82 : (St × Int32 × Int32 × Int32) → Option (Int32 × St)) (S : St) (l2 : Int32) (l3 : Int32) (l4 : Int32) (l5 : Int32) (l6 : Int32) (l7 : Int32) : Option (Int32 × St) :=
  if l2 ≤ l7 then
    Mo_drawn_L221 N l6 (S, (0 : Int32))
  else
    Mo_drawn_L91 N k82 l2 l3 l4 l6 l7 (S, l5, (0 : Int32))
def Mo_drawn_L82 (N : Nat) (l2 : Int32) (l3 : Int32) (l4 : Int32) : (St × Int32 × Int32 × Int32) → Option (Int32 × St) :=
  lp (fun k x => Mo_drawn_b82 N k x.1 l2 l3 l4 x.2.1 x.2.2.1 x.2.2.2) N
def Mo_drawn_b41 (N : Nat) (k41 : (St × Int32) → Option (Int32 × St)) (S : St) (l1 : Int32) (l2 : Int32) (l3 : Int32) (l4 : Int32) (l5 : Int32) : Option (Int32 × St) :=
  if (gi S 44 7) ≤ l5 then
    Mo_drawn_L82 N l2 l3 l4 (S, l1, (0 : Int32), (0 : Int32))
  else
    ck (inb ((38 : Int32) + l5) 58) <|
    ck (inb l5 10) <|
    nm (si S 55 l5.toNatClampNeg (gi S 45 ((38 : Int32) + l5).toNatClampNeg)) fun S1 =>
    nm (l5 + (1)) fun x2 =>
    k41 (S1, x2)
def Mo_drawn_L41 (N : Nat) (l1 : Int32) (l2 : Int32) (l3 : Int32) (l4 : Int32) : (St × Int32) → Option (Int32 × St) :=
  lp (fun k x => Mo_drawn_b41 N k x.1 l1 l2 l3 l4 x.2) N
def Mo_drawn (N : Nat) (S : St) (p1 : Int32) (p2 : Int32) (p3 : Int32) (p4 : Int32) : Option (Int32 × St) :=
  bd1 (Mo_within S (Int32.toInt64 p2) (1 : Int64) (30 : Int64)) fun r1 =>
  if r1 = 0 then
    some ((-1 : Int32), S)
  else
    bd1 (Mo_isOne S (Int32.toInt64 p3)) fun r2 =>
    if r2 = 0 then
      some ((-1 : Int32), S)
    else
      if p4 = (-1 : Int32) then
        Mo_drawn_L41 N p1 p2 p3 p4 (S, (0 : Int32))
      else
        bd1 (Mo_isDay S (Int32.toInt64 p4)) fun r3 =>
        if r3 = 0 then
          some ((-1 : Int32), S)
        else
          Mo_drawn_L41 N p1 p2 p3 p4 (S, (0 : Int32))
def Mo_passes (N : Nat) (S : St) : Option (Int32 × St) :=
  if (gi S 44 22) = (99 : Int32) then
    some ((-5 : Int32), S)
  else
    nm (si S 56 (0 : Int32).toNatClampNeg ((gi S 56 (0 : Int32).toNatClampNeg) + (1 : Int32))) fun S1 =>
    bd1 (Mo_ridersOn N S1 (gi S1 44 22)) fun r2 =>
    bd1 (Mo_bitsOf N S1 r2) fun r3 =>
    nm (si S1 56 (3 : Int32).toNatClampNeg ((gi S1 56 (3 : Int32).toNatClampNeg) + r3)) fun S4 =>
    nm (si S4 44 22 ((gi S4 44 22) + (1 : Int32))) fun S5 =>
    some ((gi S5 44 22), S5)
def Mo_vow (S : St) (p1 : Int32) (p2 : Int32) : Option (Int32 × St) :=
  if p1 < 0 then
    some ((-1 : Int32), S)
  else
    bd1 (Mo_mayCome S (Int32.toInt64 (p1 / (10 : Int32))) (Int32.toInt64 (gi S 44 22)) (Int32.toInt64 p2) (Int32.toInt64 (p1 - p1 / (10 : Int32) * (10 : Int32)))) fun r1 =>
    if r1 = 0 then
      some ((-1 : Int32), S)
    else
      if (gi S 44 7) = (10 : Int32) then
        some ((-3 : Int32), S)
      else
        nm (si S 56 (1 : Int32).toNatClampNeg ((gi S 56 (1 : Int32).toNatClampNeg) + (1 : Int32))) fun S2 =>
        bd2 (Mo_adds S2 (p1 / (10 : Int32)) (gi S2 44 22) p2 (p1 - p1 / (10 : Int32) * (10 : Int32))) fun r4 S3 =>
        some (r4, S3)
def Mo_kept_b53 (N : Nat) (k53 : (Int32 × Int32) → Option (Int32 × St)) (S : St) (l2 : Int32) (l3 : Int32) : Option (Int32 × St) :=
  if (gi S 44 7) ≤ l3 then
    some (l2, S)
  else
    bd1 (Mo_isOpen S l3 (gi S 44 22)) fun r1 =>
    if r1 = 0 then
      nm ((l2 + (0 : Int32))) fun x2 =>
      nm (l3 + (1)) fun x3 =>
      k53 (x2, x3)
    else
      nm ((l2 + (1 : Int32))) fun x4 =>
      nm (l3 + (1)) fun x5 =>
      k53 (x4, x5)
def Mo_kept_L53 (N : Nat) (S : St) : (Int32 × Int32) → Option (Int32 × St) :=
  lp (fun k x => Mo_kept_b53 N k S x.1 x.2) N
def Mo_kept (N : Nat) (S : St) (p1 : Int32) : Option (Int32 × St) :=
  bd1 (Mo_isPromise S (Int32.toInt64 p1)) fun r1 =>
  if r1 = 0 then
    some ((-1 : Int32), S)
  else
    bd1 (Mo_isOpen S p1 (gi S 44 22)) fun r2 =>
    if r2 = 0 then
      some ((-5 : Int32), S)
    else
      ck (inb ((38 : Int32) + p1) 58) <|
      nm (si S 45 ((38 : Int32) + p1).toNatClampNeg (gi S 44 22)) fun S3 =>
      nm (si S3 56 (2 : Int32).toNatClampNeg ((gi S3 56 (2 : Int32).toNatClampNeg) + (1 : Int32))) fun S4 =>
      Mo_kept_L53 N S4 ((0 : Int32), (0 : Int32))
def Mo_led (S : St) (p1 : Int32) : Option Int32 :=
  bd1 (Mo_within S (Int32.toInt64 p1) (0 : Int64) (3 : Int64)) fun r1 =>
  if r1 = 0 then
    if p1 = (4 : Int32) then
      some (gi S 44 22)
    else
      some (-1 : Int32)
  else
    ck (inb p1 4) <|
    some (gi S 56 p1.toNatClampNeg)
def Mo_image_b54 (N : Nat) (k54 : (St × Int32) → Option (Int32 × St)) (S : St) (l1 : Int32) : Option (Int32 × St) :=
  if (4 : Int32) ≤ l1 then
    some ((gi S 44 22), S)
  else
    ck (inb l1 4) <|
    ck (inb l1 4) <|
    nm (si S 58 l1.toNatClampNeg (gi S 56 l1.toNatClampNeg)) fun S1 =>
    nm (l1 + (1)) fun x2 =>
    k54 (S1, x2)
def Mo_image_L54 (N : Nat) : (St × Int32) → Option (Int32 × St) :=
  lp (fun k x => Mo_image_b54 N k x.1 x.2) N
def Mo_image_b23 (N : Nat) (k23 : (St × Int32) → Option (Int32 × St)) (S : St) (l1 : Int32) : Option (Int32 × St) :=
  if (gi S 44 7) ≤ l1 then
    Mo_image_L54 N (S, (0 : Int32))
  else
    ck (inb ((38 : Int32) + l1) 58) <|
    ck (inb l1 10) <|
    nm (si S 57 l1.toNatClampNeg (gi S 45 ((38 : Int32) + l1).toNatClampNeg)) fun S1 =>
    nm (l1 + (1)) fun x2 =>
    k23 (S1, x2)
def Mo_image_L23 (N : Nat) : (St × Int32) → Option (Int32 × St) :=
  lp (fun k x => Mo_image_b23 N k x.1 x.2) N
def Mo_image (N : Nat) (S : St) : Option (Int32 × St) :=
  nm (si S 44 24 (1 : Int32)) fun S1 =>
  nm (si S1 44 25 (gi S1 44 7)) fun S2 =>
  nm (si S2 44 26 (gi S2 44 22)) fun S3 =>
  Mo_image_L23 N (S3, (0 : Int32))
def Mo_back_b51 (N : Nat) (k51 : (St × Int32) → Option (Int32 × St)) (S : St) (l1 : Int32) : Option (Int32 × St) :=
  if (4 : Int32) ≤ l1 then
    some ((gi S 44 22), S)
  else
    ck (inb l1 4) <|
    ck (inb l1 4) <|
    nm (si S 56 l1.toNatClampNeg (gi S 58 l1.toNatClampNeg)) fun S1 =>
    nm (l1 + (1)) fun x2 =>
    k51 (S1, x2)
def Mo_back_L51 (N : Nat) : (St × Int32) → Option (Int32 × St) :=
  lp (fun k x => Mo_back_b51 N k x.1 x.2) N
def Mo_back_b12 (N : Nat) (k12 : (St × Int32) → Option (Int32 × St)) (S : St) (l1 : Int32) : Option (Int32 × St) :=
  if (gi S 44 25) ≤ l1 then
    nm (si S 44 22 (gi S 44 26)) fun S1 =>
    Mo_back_L51 N (S1, (0 : Int32))
  else
    ck (inb l1 10) <|
    ck (inb ((38 : Int32) + l1) 58) <|
    nm (si S 45 ((38 : Int32) + l1).toNatClampNeg (gi S 57 l1.toNatClampNeg)) fun S2 =>
    nm (l1 + (1)) fun x3 =>
    k12 (S2, x3)
def Mo_back_L12 (N : Nat) : (St × Int32) → Option (Int32 × St) :=
  lp (fun k x => Mo_back_b12 N k x.1 x.2) N
def Mo_back (N : Nat) (S : St) : Option (Int32 × St) :=
  if (gi S 44 24) = 0 then
    some ((-5 : Int32), S)
  else
    Mo_back_L12 N (S, (0 : Int32))
def Mo_isBody (S : St) (p1 : Int32) : Option Int32 :=
  bd1 (Mo_within S (Int32.toInt64 p1) (0 : Int64) (Int32.toInt64 ((gi S 44 29) - (1 : Int32)))) fun r1 =>
  ck (isB r1) <|
  some r1
def Mo_kindOf (S : St) (p1 : Int32) : Option Int32 :=
  ck (inb p1 50) <|
  some (gi S 59 p1.toNatClampNeg)
def Mo_body (S : St) (p1 : Int32) : Option (Int32 × St) :=
  bd1 (Mo_within S (Int32.toInt64 p1) (0 : Int64) (7 : Int64)) fun r1 =>
  if r1 = 0 then
    some ((-1 : Int32), S)
  else
    if (gi S 44 29) = (50 : Int32) then
      some ((-3 : Int32), S)
    else
      ck (inb (gi S 44 29) 50) <|
      nm (si S 59 (gi S 44 29).toNatClampNeg p1) fun S2 =>
      nm (si S2 44 29 ((gi S2 44 29) + (1 : Int32))) fun S3 =>
      some (((gi S3 44 29) - (1 : Int32)), S3)
def Mo_above (S : St) (p1 : Int32) : Option Int32 :=
  if p1 = (3 : Int32) then
    some (2 : Int32)
  else
    if p1 = (4 : Int32) then
      some (1 : Int32)
    else
      if p1 = (5 : Int32) then
        some (3 : Int32)
      else
        if p1 = (7 : Int32) then
          some (4 : Int32)
        else
          some (0 : Int32)
def Mo_runs_b19 (S : St) : Option St :=
  nm (si S 44 32 ((gi S 44 32) + (1 : Int32))) fun S1 =>
  some S1
def Mo_runs (S : St) (p1 : Int32) : Option St :=
  if (24 : Int32) ≤ (gi S 44 32) then
    Mo_runs_b19 S
  else
    ck (inb (gi S 44 32) 24) <|
    nm (si S 60 (gi S 44 32).toNatClampNeg p1) fun S1 =>
    Mo_runs_b19 S1
def Mo_holdsAs_b16 (f_holdsAs : St → Int32 → Int32 → Option (Int32 × St)) (f_ridesAs : St → Int32 → Int32 → Option (Int32 × St)) (f_creaksAs : St → Int32 → Int32 → Option (Int32 × St)) (f_tellsAs : St → Int32 → Int32 → Option (Int32 × St)) (S : St) (l2 : Int32) : Option (Int32 × St) :=
  bd1 (Mo_runs S (20 : Int32)) fun S1 =>
  bd2 (f_holdsAs S1 (0 : Int32) l2) fun r3 S2 =>
  some ((r3 + (3 : Int32)), S2)
def Mo_holdsAs_B (f_holdsAs : St → Int32 → Int32 → Option (Int32 × St)) (f_ridesAs : St → Int32 → Int32 → Option (Int32 × St)) (f_creaksAs : St → Int32 → Int32 → Option (Int32 × St)) (f_tellsAs : St → Int32 → Int32 → Option (Int32 × St)) (S : St) (p1 : Int32) (p2 : Int32) : Option (Int32 × St) :=
  if p1 = (1 : Int32) then
    Mo_holdsAs_b16 f_holdsAs f_ridesAs f_creaksAs f_tellsAs S p2
  else
    if p1 = (4 : Int32) then
      Mo_holdsAs_b16 f_holdsAs f_ridesAs f_creaksAs f_tellsAs S p2
    else
      if p1 = (7 : Int32) then
        Mo_holdsAs_b16 f_holdsAs f_ridesAs f_creaksAs f_tellsAs S p2
      else
        if p1 = (6 : Int32) then
          bd1 (Mo_runs S (70 : Int32)) fun S2 =>
          bd2 (f_holdsAs S2 (0 : Int32) p2) fun r4 S3 =>
          some ((r4 * (2 : Int32)), S3)
        else
          bd1 (Mo_runs S (1 : Int32)) fun S1 =>
          some ((p2 + (gi S1 44 34)), S1)
def Mo_ridesAs_b10 (f_holdsAs : St → Int32 → Int32 → Option (Int32 × St)) (f_ridesAs : St → Int32 → Int32 → Option (Int32 × St)) (f_creaksAs : St → Int32 → Int32 → Option (Int32 × St)) (f_tellsAs : St → Int32 → Int32 → Option (Int32 × St)) (S : St) (l2 : Int32) : Option (Int32 × St) :=
  bd1 (Mo_runs S (41 : Int32)) fun S1 =>
  bd2 (f_ridesAs S1 (2 : Int32) (l2 + (1 : Int32))) fun r3 S2 =>
  some (r3, S2)
def Mo_ridesAs_B (f_holdsAs : St → Int32 → Int32 → Option (Int32 × St)) (f_ridesAs : St → Int32 → Int32 → Option (Int32 × St)) (f_creaksAs : St → Int32 → Int32 → Option (Int32 × St)) (f_tellsAs : St → Int32 → Int32 → Option (Int32 × St)) (S : St) (p1 : Int32) (p2 : Int32) : Option (Int32 × St) :=
  if p1 = (3 : Int32) then
    Mo_ridesAs_b10 f_holdsAs f_ridesAs f_creaksAs f_tellsAs S p2
  else
    if p1 = (5 : Int32) then
      Mo_ridesAs_b10 f_holdsAs f_ridesAs f_creaksAs f_tellsAs S p2
    else
      if p1 = (2 : Int32) then
        bd1 (Mo_runs S (30 : Int32)) fun S9 =>
        bd2 (f_ridesAs S9 (0 : Int32) p2) fun r11 S10 =>
        some ((-r11), S10)
      else
        if p1 = (7 : Int32) then
          bd1 (Mo_runs S (80 : Int32)) fun S4 =>
          bd2 (f_ridesAs S4 (4 : Int32) p2) fun r6 S5 =>
          bd2 (f_creaksAs S5 (gi S5 44 33) (2 : Int32)) fun r8 S7 =>
          some ((r6 + r8), S7)
        else
          bd1 (Mo_runs S (10 : Int32)) fun S1 =>
          bd2 (f_holdsAs S1 (gi S1 44 33) p2) fun r3 S2 =>
          some ((r3 * (2 : Int32)), S2)
def Mo_creaksAs_b10 (f_holdsAs : St → Int32 → Int32 → Option (Int32 × St)) (f_ridesAs : St → Int32 → Int32 → Option (Int32 × St)) (f_creaksAs : St → Int32 → Int32 → Option (Int32 × St)) (f_tellsAs : St → Int32 → Int32 → Option (Int32 × St)) (S : St) (l2 : Int32) : Option (Int32 × St) :=
  bd1 (Mo_runs S (40 : Int32)) fun S1 =>
  bd2 (f_creaksAs S1 (2 : Int32) l2) fun r3 S2 =>
  some ((r3 * (3 : Int32)), S2)
def Mo_creaksAs_b36 (f_holdsAs : St → Int32 → Int32 → Option (Int32 × St)) (f_ridesAs : St → Int32 → Int32 → Option (Int32 × St)) (f_creaksAs : St → Int32 → Int32 → Option (Int32 × St)) (f_tellsAs : St → Int32 → Int32 → Option (Int32 × St)) (S : St) (l2 : Int32) : Option (Int32 × St) :=
  bd1 (Mo_runs S (50 : Int32)) fun S1 =>
  bd2 (f_creaksAs S1 (1 : Int32) l2) fun r3 S2 =>
  bd2 (f_holdsAs S2 (gi S2 44 33) (2 : Int32)) fun r5 S4 =>
  some ((r3 - r5), S4)
def Mo_creaksAs_B (f_holdsAs : St → Int32 → Int32 → Option (Int32 × St)) (f_ridesAs : St → Int32 → Int32 → Option (Int32 × St)) (f_creaksAs : St → Int32 → Int32 → Option (Int32 × St)) (f_tellsAs : St → Int32 → Int32 → Option (Int32 × St)) (S : St) (p1 : Int32) (p2 : Int32) : Option (Int32 × St) :=
  if p1 = (3 : Int32) then
    Mo_creaksAs_b10 f_holdsAs f_ridesAs f_creaksAs f_tellsAs S p2
  else
    if p1 = (5 : Int32) then
      Mo_creaksAs_b10 f_holdsAs f_ridesAs f_creaksAs f_tellsAs S p2
    else
      if p1 = (4 : Int32) then
        Mo_creaksAs_b36 f_holdsAs f_ridesAs f_creaksAs f_tellsAs S p2
      else
        if p1 = (7 : Int32) then
          Mo_creaksAs_b36 f_holdsAs f_ridesAs f_creaksAs f_tellsAs S p2
        else
          bd1 (Mo_runs S (11 : Int32)) fun S1 =>
          some ((p2 ^^^ (gi S1 44 34)), S1)
def Mo_tellsAs_B (f_holdsAs : St → Int32 → Int32 → Option (Int32 × St)) (f_ridesAs : St → Int32 → Int32 → Option (Int32 × St)) (f_creaksAs : St → Int32 → Int32 → Option (Int32 × St)) (f_tellsAs : St → Int32 → Int32 → Option (Int32 × St)) (S : St) (p1 : Int32) (p2 : Int32) : Option (Int32 × St) :=
  if p1 = (5 : Int32) then
    bd1 (Mo_runs S (60 : Int32)) fun S9 =>
    bd2 (f_tellsAs S9 (3 : Int32) p2) fun r11 S10 =>
    some ((r11 ^^^ (5 : Int32)), S10)
  else
    if p1 = (7 : Int32) then
      bd1 (Mo_runs S (81 : Int32)) fun S6 =>
      bd2 (f_tellsAs S6 (4 : Int32) p2) fun r8 S7 =>
      some ((r8 - (1 : Int32)), S7)
    else
      bd1 (Mo_runs S (2 : Int32)) fun S1 =>
      bd2 (f_ridesAs S1 (gi S1 44 33) p2) fun r3 S2 =>
      bd2 (f_creaksAs S2 (gi S2 44 33) (1 : Int32)) fun r5 S4 =>
      some ((r3 - r5), S4)
def grp_Mo_holdsAs : Nat → (St → Int32 → Int32 → Option (Int32 × St)) × (St → Int32 → Int32 → Option (Int32 × St)) × (St → Int32 → Int32 → Option (Int32 × St)) × (St → Int32 → Int32 → Option (Int32 × St))
  | 0 => ((fun _ _ _ => none), (fun _ _ _ => none), (fun _ _ _ => none), (fun _ _ _ => none))
  | d + 1 => (Mo_holdsAs_B ((grp_Mo_holdsAs d).1) ((grp_Mo_holdsAs d).2.1) ((grp_Mo_holdsAs d).2.2.1) ((grp_Mo_holdsAs d).2.2.2), Mo_ridesAs_B ((grp_Mo_holdsAs d).1) ((grp_Mo_holdsAs d).2.1) ((grp_Mo_holdsAs d).2.2.1) ((grp_Mo_holdsAs d).2.2.2), Mo_creaksAs_B ((grp_Mo_holdsAs d).1) ((grp_Mo_holdsAs d).2.1) ((grp_Mo_holdsAs d).2.2.1) ((grp_Mo_holdsAs d).2.2.2), Mo_tellsAs_B ((grp_Mo_holdsAs d).1) ((grp_Mo_holdsAs d).2.1) ((grp_Mo_holdsAs d).2.2.1) ((grp_Mo_holdsAs d).2.2.2))
def Mo_holdsAs (d : Nat) : St → Int32 → Int32 → Option (Int32 × St) := ((grp_Mo_holdsAs d).1)
def Mo_ridesAs (d : Nat) : St → Int32 → Int32 → Option (Int32 × St) := ((grp_Mo_holdsAs d).2.1)
def Mo_creaksAs (d : Nat) : St → Int32 → Int32 → Option (Int32 × St) := ((grp_Mo_holdsAs d).2.2.1)
def Mo_tellsAs (d : Nat) : St → Int32 → Int32 → Option (Int32 × St) := ((grp_Mo_holdsAs d).2.2.2)
def Mo_act (N : Nat) (S : St) (p1 : Int32) (p2 : Int32) (p3 : Int32) : Option (Int32 × St) :=
  nm (si S 44 32 (0 : Int32)) fun S1 =>
  bd1 (Mo_isBody S1 p1) fun r2 =>
  if r2 = 0 then
    some ((0 : Int32), S1)
  else
    ck (inb p1 50) <|
    nm (si S1 44 33 (gi S1 59 p1.toNatClampNeg)) fun S3 =>
    nm (si S3 44 34 p1) fun S4 =>
    if p2 = 0 then
      bd2 (Mo_holdsAs N S4 (gi S4 44 33) p3) fun r6 S5 =>
      some (r6, S5)
    else
    if p2 = 1 then
      bd2 (Mo_ridesAs N S4 (gi S4 44 33) p3) fun r8 S7 =>
      some (r8, S7)
    else
    if p2 = 2 then
      bd2 (Mo_creaksAs N S4 (gi S4 44 33) p3) fun r10 S9 =>
      some (r10, S9)
    else
    if p2 = 3 then
      bd2 (Mo_tellsAs N S4 (gi S4 44 33) p3) fun r12 S11 =>
      some (r12, S11)
    else
    some ((0 : Int32), S4)
def Mo_trace (S : St) (p1 : Int32) : Option Int32 :=
  if p1 < 0 then
    some (-1 : Int32)
  else
    if (gi S 44 32) ≤ p1 then
      some (-1 : Int32)
    else
      if (24 : Int32) ≤ p1 then
        some (-1 : Int32)
      else
        ck (inb p1 24) <|
        some (gi S 60 p1.toNatClampNeg)
def Mo_keep_b22 (S : St) (l1 : Int32) (l2 : Int32) : Option (Int32 × St) :=
  ck (inb l1 6) <|
  nm (si S 61 l1.toNatClampNeg l2) fun S1 =>
  ck (inb l1 6) <|
  nm (si S1 62 l1.toNatClampNeg (0 : Int32)) fun S2 =>
  some ((1 : Int32), S2)
def Mo_keep (S : St) (p1 : Int32) (p2 : Int32) : Option (Int32 × St) :=
  bd1 (Mo_isShelf S p1) fun r1 =>
  if r1 = 0 then
    some ((-1 : Int32), S)
  else
    if p2 = (-1 : Int32) then
      Mo_keep_b22 S p1 p2
    else
      bd1 (Mo_isBody S p2) fun r2 =>
      if r2 = 0 then
        some ((-1 : Int32), S)
      else
        Mo_keep_b22 S p1 p2
def Mo_row_b57 (N : Nat) (k57 : (St × Int32) → Option (Int32 × St)) (S : St) (l1 : Int32) (l4 : Int32) : Option (Int32 × St) :=
  if (((60 : Int32) * l1) + (60 : Int32)) ≤ l4 then
    some ((1 : Int32), S)
  else
    ck (inb l4 360) <|
    nm (sl S 63 l4.toNatClampNeg (0 : Int64)) fun S1 =>
    nm (l4 + (1)) fun x2 =>
    k57 (S1, x2)
def Mo_row_L57 (N : Nat) (l1 : Int32) : (St × Int32) → Option (Int32 × St) :=
  lp (fun k x => Mo_row_b57 N k x.1 l1 x.2) N
def Mo_row (N : Nat) (S : St) (p1 : Int32) (p2 : Int32) (p3 : Int32) : Option (Int32 × St) :=
  bd1 (Mo_isShelf S p1) fun r1 =>
  if r1 = 0 then
    some ((-1 : Int32), S)
  else
    bd1 (Mo_within S (Int32.toInt64 p2) (0 : Int64) (4 : Int64)) fun r2 =>
    if r2 = 0 then
      some ((-1 : Int32), S)
    else
      if p3 ≤ (60 : Int32) then
        if 0 ≤ p3 then
          ck (inb p1 6) <|
          nm (si S 61 p1.toNatClampNeg ((50 : Int32) + p2)) fun S3 =>
          ck (inb p1 6) <|
          nm (si S3 62 p1.toNatClampNeg p3) fun S4 =>
          nm (((60 : Int32) * p1)) fun x5 =>
          Mo_row_L57 N p1 (S4, x5)
        else
          some ((-14 : Int32), S)
      else
        some ((-1 : Int32), S)
def Mo_refusal (S : St) (p1 : Int32) (p2 : Int32) : Option Int32 :=
  bd1 (Mo_isShelf S p1) fun r1 =>
  if r1 = 0 then
    some (-1 : Int32)
  else
    ck (inb p1 6) <|
    if 0 ≤ (gi S 61 p1.toNatClampNeg) then
      ck (inb p1 6) <|
      if (50 : Int32) ≤ (gi S 61 p1.toNatClampNeg) then
        if p2 < 0 then
          some (-13 : Int32)
        else
          ck (inb p1 6) <|
          if (gi S 62 p1.toNatClampNeg) ≤ p2 then
            some (-13 : Int32)
          else
            some (0 : Int32)
      else
        some (-12 : Int32)
    else
      some (-11 : Int32)
def Mo_asSort (S : St) (p1 : Int32) (p2 : Int64) : Option Int64 :=
  if p1 = 0 then
    some (Int32.toInt64 (Int32.toInt8 (Int64.toInt32 p2)).toInt32)
  else
    if p1 = (1 : Int32) then
      some (Int32.toInt64 (Int32.toInt16 (Int64.toInt32 p2)).toInt32)
    else
      if p1 = (2 : Int32) then
        some (Int32.toInt64 (Int64.toInt32 p2))
      else
        if p1 = (4 : Int32) then
          if (lg_cmp p2 (0 : Int64)) = 0 then
            some (0 : Int64)
          else
            some (1 : Int64)
        else
          some p2
def Mo_put_b37 (S : St) (l5 : Int32) : Option (Int32 × St) :=
  if l5 = 0 then
    some ((1 : Int32), S)
  else
    some (l5, S)
def Mo_put (S : St) (p1 : Int32) (p2 : Int32) (p3 : Int64) : Option (Int32 × St) :=
  bd1 (Mo_refusal S p1 p2) fun r1 =>
  if r1 = 0 then
    ck (inb p1 6) <|
    bd1 (Mo_asSort S ((gi S 61 p1.toNatClampNeg) - (50 : Int32)) p3) fun r2 =>
    ck (inb (((60 : Int32) * p1) + p2) 360) <|
    nm (sl S 63 (((60 : Int32) * p1) + p2).toNatClampNeg r2) fun S3 =>
    Mo_put_b37 S3 r1
  else
    Mo_put_b37 S r1
def Mo_element (S : St) (p1 : Int32) (p2 : Int32) : Option Int64 :=
  bd1 (Mo_refusal S p1 p2) fun r1 =>
  if r1 = 0 then
    ck (inb (((60 : Int32) * p1) + p2) 360) <|
    some (gl S 63 (((60 : Int32) * p1) + p2).toNatClampNeg)
  else
    some (-9223372036854775808 : Int64)
def Mo_shift_b150 (N : Nat) (k150 : (St × Int32) → Option (Int32 × St)) (S : St) (l3 : Int32) (l4 : Int32) (l5 : Int32) (l6 : Int32) : Option (Int32 × St) :=
  if l5 ≤ l6 then
    some (l5, S)
  else
    ck (inb l6 60) <|
    ck (inb ((((60 : Int32) * l3) + l4) + l6) 360) <|
    nm (sl S 63 ((((60 : Int32) * l3) + l4) + l6).toNatClampNeg (gl S 64 l6.toNatClampNeg)) fun S1 =>
    nm (l6 + (1)) fun x2 =>
    k150 (S1, x2)
def Mo_shift_L150 (N : Nat) (l3 : Int32) (l4 : Int32) (l5 : Int32) : (St × Int32) → Option (Int32 × St) :=
  lp (fun k x => Mo_shift_b150 N k x.1 l3 l4 l5 x.2) N
def Mo_shift_b113 (N : Nat) (k113 : (St × Int32) → Option (Int32 × St)) (S : St) (l1 : Int32) (l2 : Int32) (l3 : Int32) (l4 : Int32) (l5 : Int32) (l6 : Int32) : Option (Int32 × St) :=
  if l5 ≤ l6 then
    Mo_shift_L150 N l3 l4 l5 (S, (0 : Int32))
  else
    ck (inb ((((60 : Int32) * l1) + l2) + l6) 360) <|
    ck (inb l6 60) <|
    nm (sl S 64 l6.toNatClampNeg (gl S 63 ((((60 : Int32) * l1) + l2) + l6).toNatClampNeg)) fun S1 =>
    nm (l6 + (1)) fun x2 =>
    k113 (S1, x2)
def Mo_shift_L113 (N : Nat) (l1 : Int32) (l2 : Int32) (l3 : Int32) (l4 : Int32) (l5 : Int32) : (St × Int32) → Option (Int32 × St) :=
  lp (fun k x => Mo_shift_b113 N k x.1 l1 l2 l3 l4 l5 x.2) N
def Mo_shift (N : Nat) (S : St) (p1 : Int32) (p2 : Int32) (p3 : Int32) (p4 : Int32) (p5 : Int32) : Option (Int32 × St) :=
  bd1 (Mo_isShelf S p1) fun r1 =>
  if r1 = 0 then
    some ((-1 : Int32), S)
  else
    bd1 (Mo_isShelf S p3) fun r2 =>
    if r2 = 0 then
      some ((-1 : Int32), S)
    else
      ck (inb p1 6) <|
      if (gi S 61 p1.toNatClampNeg) < 0 then
        some ((-11 : Int32), S)
      else
        ck (inb p3 6) <|
        if 0 ≤ (gi S 61 p3.toNatClampNeg) then
          ck (inb p1 6) <|
          if (gi S 61 p1.toNatClampNeg) < (50 : Int32) then
            some ((-12 : Int32), S)
          else
            ck (inb p1 6) <|
            ck (inb p3 6) <|
            if (gi S 61 p1.toNatClampNeg) = (gi S 61 p3.toNatClampNeg) then
              if p5 < 0 then
                some ((-13 : Int32), S)
              else
                if p2 < 0 then
                  some ((-13 : Int32), S)
                else
                  if p4 < 0 then
                    some ((-13 : Int32), S)
                  else
                    ck (inb p1 6) <|
                    if ((gi S 62 p1.toNatClampNeg) - p5) < p2 then
                      some ((-13 : Int32), S)
                    else
                      ck (inb p3 6) <|
                      if p4 ≤ ((gi S 62 p3.toNatClampNeg) - p5) then
                        Mo_shift_L113 N p1 p2 p3 p4 p5 (S, (0 : Int32))
                      else
                        some ((-13 : Int32), S)
            else
              some ((-12 : Int32), S)
        else
          some ((-11 : Int32), S)
def Mo_taken_b75 (N : Nat) (S : St) (l1 : Int32) (l2 : Int32) (l3 : Int32) : Option Int32 :=
  if l3 = l2 then
    ck (inb l1 6) <|
    bd1 (Mo_kindOf S (gi S 61 l1.toNatClampNeg)) fun r1 =>
    some r1
  else
    some (-12 : Int32)
def Mo_taken_b58 (N : Nat) (k58 : (Int32) → Option Int32) (S : St) (l1 : Int32) (l2 : Int32) (l3 : Int32) : Option Int32 :=
  if l3 = l2 then
    Mo_taken_b75 N S l1 l2 l3
  else
    if l3 ≤ 0 then
      Mo_taken_b75 N S l1 l2 l3
    else
      bd1 (Mo_above S l3) fun r1 =>
      k58 (r1)
def Mo_taken_L58 (N : Nat) (S : St) (l1 : Int32) (l2 : Int32) : (Int32) → Option Int32 :=
  lp (fun k x => Mo_taken_b58 N k S l1 l2 x) N
def Mo_taken (N : Nat) (S : St) (p1 : Int32) (p2 : Int32) : Option Int32 :=
  bd1 (Mo_isShelf S p1) fun r1 =>
  if r1 = 0 then
    some (-1 : Int32)
  else
    bd1 (Mo_within S (Int32.toInt64 p2) (0 : Int64) (7 : Int64)) fun r2 =>
    if r2 = 0 then
      some (-1 : Int32)
    else
      ck (inb p1 6) <|
      if 0 ≤ (gi S 61 p1.toNatClampNeg) then
        ck (inb p1 6) <|
        if (gi S 61 p1.toNatClampNeg) < (50 : Int32) then
          ck (inb p1 6) <|
          bd1 (Mo_kindOf S (gi S 61 p1.toNatClampNeg)) fun r3 =>
          Mo_taken_L58 N S p1 p2 (r3)
        else
          some (-12 : Int32)
      else
        some (-11 : Int32)
def Mo_count (S : St) (p1 : Int32) : Option Int32 :=
  if p1 = 0 then
    some (gi S 44 6)
  else
  if p1 = 1 then
    some (gi S 44 7)
  else
  if p1 = 2 then
    some (gi S 44 11)
  else
  if p1 = 3 then
    some (gi S 44 5)
  else
  if p1 = 4 then
    some (gi S 44 29)
  else
  if p1 = 5 then
    some (gi S 44 32)
  else
  some (-1 : Int32)
def fuel : Nat := 1200
def LS_person (RR : St → St → Prop) : Prop := ∀ (S V : St) (a1 : Int32) (a2 : Int32), RR S V → ∃ (r : Int32) (S1 : St) (V1 : St), Ch_person S a1 a2 = some (r, S1) ∧ Mo_person V a1 a2 = some (r, V1) ∧ RR S1 V1
def LS_promise (RR : St → St → Prop) : Prop := ∀ (S V : St) (a1 : Int32) (a2 : Int32), RR S V → ∃ (r : Int32) (S1 : St) (V1 : St), Ch_promise S a1 a2 = some (r, S1) ∧ Mo_promise V a1 a2 = some (r, V1) ∧ RR S1 V1
def LS_promises (RR : St → St → Prop) : Prop := ∀ (S V : St) (a1 : Int32) (a2 : Int32) (a3 : Int32), RR S V → ∃ (r : Int32) (S1 : St) (V1 : St), Ch_promises fuel S a1 a2 a3 = some (r, S1) ∧ Mo_promises fuel V a1 a2 a3 = some (r, V1) ∧ RR S1 V1
def LS_mend (RR : St → St → Prop) : Prop := ∀ (S V : St) (a1 : Int32) (a2 : Int32) (a3 : Int32), RR S V → ∃ (r : Int32) (S1 : St) (V1 : St), Ch_mend S a1 a2 a3 = some (r, S1) ∧ Mo_mend fuel V a1 a2 a3 = some (r, V1) ∧ RR S1 V1
def LS_of (RR : St → St → Prop) : Prop := ∀ (S V : St) (a1 : Int32) (a2 : Int32), RR S V → ∃ (r : Int32), Ch_of S a1 a2 = some r ∧ Mo_of V a1 a2 = some r ∧ RR S V
def LS_feed (RR : St → St → Prop) : Prop := ∀ (S V : St) (a1 : Int32), RR S V → ∃ (r : Int32) (S1 : St) (V1 : St), Ch_feed S a1 = some (r, S1) ∧ Mo_feed V a1 = some (r, V1) ∧ RR S1 V1
def LS_law (RR : St → St → Prop) : Prop := ∀ (S V : St), RR S V → ∃ (r : Int32) (S1 : St) (V1 : St), Ch_law fuel S = some (r, S1) ∧ Mo_law fuel V = some (r, V1) ∧ RR S1 V1
def LS_chain (RR : St → St → Prop) : Prop := ∀ (S V : St) (a1 : Int32) (a2 : Int32) (a3 : Int32), RR S V → ∃ (r : Int32) (S1 : St) (V1 : St), Ch_chain fuel S a1 a2 a3 = some (r, S1) ∧ Mo_chain fuel V a1 a2 a3 = some (r, V1) ∧ RR S1 V1
def LS_creak (RR : St → St → Prop) : Prop := ∀ (S V : St) (a1 : Int32) (a2 : Int32), RR S V → ∃ (r : Int32) (S1 : St) (V1 : St), Ch_creak fuel S a1 a2 = some (r, S1) ∧ Mo_creak fuel V a1 a2 = some (r, V1) ∧ RR S1 V1
def LS_rides (RR : St → St → Prop) : Prop := ∀ (S V : St) (a1 : Int32) (a2 : Int32) (a3 : Int32), RR S V → ∃ (r : Int32) (S1 : St), Ch_rides fuel S a1 a2 a3 = some (r, S1) ∧ Mo_rides fuel V a1 a2 a3 = some r ∧ RR S1 V
def LS_ride (RR : St → St → Prop) : Prop := ∀ (S V : St) (a1 : Int32) (a2 : Int32), RR S V → ∃ (r : Int32) (S1 : St), Ch_ride fuel S a1 a2 = some (r, S1) ∧ Mo_ride fuel V a1 a2 = some r ∧ RR S1 V
def LS_who (RR : St → St → Prop) : Prop := ∀ (S V : St) (a1 : Int32), RR S V → ∃ (r : Int32), Ch_who fuel S a1 = some r ∧ Mo_who fuel V a1 = some r ∧ RR S V
def LS_best (RR : St → St → Prop) : Prop := ∀ (S V : St) (a1 : Int32), RR S V → ∃ (r : Int32) (S1 : St), Ch_best fuel S a1 = some (r, S1) ∧ Mo_best fuel V a1 = some r ∧ RR S1 V
def LS_keepBy (RR : St → St → Prop) : Prop := ∀ (S V : St) (a1 : Int32) (a2 : Int32) (a3 : Int32), RR S V → ∃ (r : Int32), Ch_keepBy fuel S a1 a2 a3 = some r ∧ Mo_keepBy fuel V a1 a2 a3 = some r ∧ RR S V
def LS_lightest (RR : St → St → Prop) : Prop := ∀ (S V : St) (a1 : Int32) (a2 : Int32) (a3 : Int32), RR S V → ∃ (r : Int32), Ch_lightest fuel S a1 a2 a3 = some r ∧ Mo_lightest fuel V a1 a2 a3 = some r ∧ RR S V
def LS_ways (RR : St → St → Prop) : Prop := ∀ (S V : St) (a1 : Int32) (a2 : Int32), RR S V → ∃ (r : Int32), Ch_ways fuel S a1 a2 = some r ∧ Mo_ways fuel V a1 a2 = some r ∧ RR S V
def LS_can (RR : St → St → Prop) : Prop := ∀ (S V : St) (a1 : Int32) (a2 : Int32), RR S V → ∃ (r : Int32) (S1 : St) (V1 : St), Ch_can fuel S a1 a2 = some (r, S1) ∧ Mo_can fuel V a1 a2 = some (r, V1) ∧ RR S1 V1
def LS_most (RR : St → St → Prop) : Prop := ∀ (S V : St) (a1 : Int32) (a2 : Int32), RR S V → ∃ (r : Int32) (S1 : St) (V1 : St), Ch_most fuel S a1 a2 = some (r, S1) ∧ Mo_most fuel V a1 a2 = some (r, V1) ∧ RR S1 V1
def LS_clashes (RR : St → St → Prop) : Prop := ∀ (S V : St) (a1 : Int32) (a2 : Int32), RR S V → ∃ (r : Int32) (S1 : St) (V1 : St), Ch_clashes fuel S a1 a2 = some (r, S1) ∧ Mo_clashes fuel V a1 a2 = some (r, V1) ∧ RR S1 V1
def LS_hand (RR : St → St → Prop) : Prop := ∀ (S V : St) (a1 : Int32) (a2 : Int32), RR S V → ∃ (r : Int32) (V1 : St), Ch_hand fuel S a1 a2 = some r ∧ Mo_hand fuel V a1 a2 = some (r, V1) ∧ RR S V1
def LS_handBest (RR : St → St → Prop) : Prop := ∀ (S V : St) (a1 : Int32) (a2 : Int32), RR S V → ∃ (r : Int32) (V1 : St), Ch_handBest fuel S a1 a2 = some r ∧ Mo_handBest fuel V a1 a2 = some (r, V1) ∧ RR S V1
def LS_judge (RR : St → St → Prop) : Prop := ∀ (S V : St) (a1 : Int32) (a2 : Int32), RR S V → ∃ (r : Int32) (S1 : St) (V1 : St), Ch_judge fuel S a1 a2 = some (r, S1) ∧ Mo_judge fuel V a1 a2 = some (r, V1) ∧ RR S1 V1
def LS_keptOn (RR : St → St → Prop) : Prop := ∀ (S V : St) (a1 : Int32) (a2 : Int32) (a3 : Int32) (a4 : Int32), RR S V → ∃ (r : Int32) (S1 : St) (V1 : St), Ch_keptOn fuel S a1 a2 a3 a4 = some (r, S1) ∧ Mo_keptOn fuel V a1 a2 a3 a4 = some (r, V1) ∧ RR S1 V1
def LS_whose (RR : St → St → Prop) : Prop := ∀ (S V : St) (a1 : Int32), RR S V → ∃ (r : Int32) (S1 : St) (V1 : St), Ch_whose fuel S a1 = some (r, S1) ∧ Mo_whose fuel V a1 = some (r, V1) ∧ RR S1 V1
def LS_byTurns (RR : St → St → Prop) : Prop := ∀ (S V : St) (a1 : Int32) (a2 : Int32) (a3 : Int32), RR S V → ∃ (r : Int32), Ch_byTurns fuel S a1 a2 a3 = some r ∧ Mo_byTurns fuel V a1 a2 a3 = some r ∧ RR S V
def LS_loudest (RR : St → St → Prop) : Prop := ∀ (S V : St) (a1 : Int32), RR S V → ∃ (r : Int32) (S1 : St) (V1 : St), Ch_loudest fuel S a1 = some (r, S1) ∧ Mo_loudest fuel V a1 = some (r, V1) ∧ RR S1 V1
def LS_drawn (RR : St → St → Prop) : Prop := ∀ (S V : St) (a1 : Int32) (a2 : Int32) (a3 : Int32) (a4 : Int32), RR S V → ∃ (r : Int32) (S1 : St) (V1 : St), Ch_drawn fuel S a1 a2 a3 a4 = some (r, S1) ∧ Mo_drawn fuel V a1 a2 a3 a4 = some (r, V1) ∧ RR S1 V1
def LS_passes (RR : St → St → Prop) : Prop := ∀ (S V : St), RR S V → ∃ (r : Int32) (S1 : St) (V1 : St), Ch_passes fuel S = some (r, S1) ∧ Mo_passes fuel V = some (r, V1) ∧ RR S1 V1
def LS_vow (RR : St → St → Prop) : Prop := ∀ (S V : St) (a1 : Int32) (a2 : Int32), RR S V → ∃ (r : Int32) (S1 : St) (V1 : St), Ch_vow S a1 a2 = some (r, S1) ∧ Mo_vow V a1 a2 = some (r, V1) ∧ RR S1 V1
def LS_kept (RR : St → St → Prop) : Prop := ∀ (S V : St) (a1 : Int32), RR S V → ∃ (r : Int32) (S1 : St) (V1 : St), Ch_kept fuel S a1 = some (r, S1) ∧ Mo_kept fuel V a1 = some (r, V1) ∧ RR S1 V1
def LS_led (RR : St → St → Prop) : Prop := ∀ (S V : St) (a1 : Int32), RR S V → ∃ (r : Int32), Ch_led S a1 = some r ∧ Mo_led V a1 = some r ∧ RR S V
def LS_image (RR : St → St → Prop) : Prop := ∀ (S V : St), RR S V → ∃ (r : Int32) (S1 : St) (V1 : St), Ch_image S = some (r, S1) ∧ Mo_image fuel V = some (r, V1) ∧ RR S1 V1
def LS_back (RR : St → St → Prop) : Prop := ∀ (S V : St), RR S V → ∃ (r : Int32) (S1 : St) (V1 : St), Ch_back S = some (r, S1) ∧ Mo_back fuel V = some (r, V1) ∧ RR S1 V1
def LS_undo (RR : St → St → Prop) : Prop := ∀ (S V : St), RR S V → ∃ (r : Int32) (S1 : St) (V1 : St), Ch_undo S = some (r, S1) ∧ Mo_undo V = some (r, V1) ∧ RR S1 V1
def LS_redo (RR : St → St → Prop) : Prop := ∀ (S V : St), RR S V → ∃ (r : Int32) (S1 : St) (V1 : St), Ch_redo S = some (r, S1) ∧ Mo_redo V = some (r, V1) ∧ RR S1 V1
def LS_body (RR : St → St → Prop) : Prop := ∀ (S V : St) (a1 : Int32), RR S V → ∃ (r : Int32) (S1 : St) (V1 : St), Ch_body S a1 = some (r, S1) ∧ Mo_body V a1 = some (r, V1) ∧ RR S1 V1
def LS_act (RR : St → St → Prop) : Prop := ∀ (S V : St) (a1 : Int32) (a2 : Int32) (a3 : Int32), RR S V → ∃ (r : Int32) (S1 : St) (V1 : St), Ch_act fuel S a1 a2 a3 = some (r, S1) ∧ Mo_act fuel V a1 a2 a3 = some (r, V1) ∧ RR S1 V1
def LS_trace (RR : St → St → Prop) : Prop := ∀ (S V : St) (a1 : Int32), RR S V → ∃ (r : Int32), Ch_trace S a1 = some r ∧ Mo_trace V a1 = some r ∧ RR S V
def LS_keep (RR : St → St → Prop) : Prop := ∀ (S V : St) (a1 : Int32) (a2 : Int32), RR S V → ∃ (r : Int32) (S1 : St) (V1 : St), Ch_keep S a1 a2 = some (r, S1) ∧ Mo_keep V a1 a2 = some (r, V1) ∧ RR S1 V1
def LS_row (RR : St → St → Prop) : Prop := ∀ (S V : St) (a1 : Int32) (a2 : Int32) (a3 : Int32), RR S V → ∃ (r : Int32) (S1 : St) (V1 : St), Ch_row fuel S a1 a2 a3 = some (r, S1) ∧ Mo_row fuel V a1 a2 a3 = some (r, V1) ∧ RR S1 V1
def LS_put (RR : St → St → Prop) : Prop := ∀ (S V : St) (a1 : Int32) (a2 : Int32) (a3 : Int64), RR S V → ∃ (r : Int32) (S1 : St) (V1 : St), Ch_put S a1 a2 a3 = some (r, S1) ∧ Mo_put V a1 a2 a3 = some (r, V1) ∧ RR S1 V1
def LS_element (RR : St → St → Prop) : Prop := ∀ (S V : St) (a1 : Int32) (a2 : Int32), RR S V → ∃ (r : Int64), Ch_element S a1 a2 = some r ∧ Mo_element V a1 a2 = some r ∧ RR S V
def LS_shift (RR : St → St → Prop) : Prop := ∀ (S V : St) (a1 : Int32) (a2 : Int32) (a3 : Int32) (a4 : Int32) (a5 : Int32), RR S V → ∃ (r : Int32) (S1 : St) (V1 : St), Ch_shift S a1 a2 a3 a4 a5 = some (r, S1) ∧ Mo_shift fuel V a1 a2 a3 a4 a5 = some (r, V1) ∧ RR S1 V1
def LS_taken (RR : St → St → Prop) : Prop := ∀ (S V : St) (a1 : Int32) (a2 : Int32), RR S V → ∃ (r : Int32), Ch_taken fuel S a1 a2 = some r ∧ Mo_taken fuel V a1 a2 = some r ∧ RR S V
def LS_count (RR : St → St → Prop) : Prop := ∀ (S V : St) (a1 : Int32), RR S V → ∃ (r : Int32), Ch_count S a1 = some r ∧ Mo_count V a1 = some r ∧ RR S V
def LSall (RR : St → St → Prop) : Prop := LS_person RR ∧ LS_promise RR ∧ LS_promises RR ∧ LS_mend RR ∧ LS_of RR ∧ LS_feed RR ∧ LS_law RR ∧ LS_chain RR ∧ LS_creak RR ∧ LS_rides RR ∧ LS_ride RR ∧ LS_who RR ∧ LS_best RR ∧ LS_keepBy RR ∧ LS_lightest RR ∧ LS_ways RR ∧ LS_can RR ∧ LS_most RR ∧ LS_clashes RR ∧ LS_hand RR ∧ LS_handBest RR ∧ LS_judge RR ∧ LS_keptOn RR ∧ LS_whose RR ∧ LS_byTurns RR ∧ LS_loudest RR ∧ LS_drawn RR ∧ LS_passes RR ∧ LS_vow RR ∧ LS_kept RR ∧ LS_led RR ∧ LS_image RR ∧ LS_back RR ∧ LS_undo RR ∧ LS_redo RR ∧ LS_body RR ∧ LS_act RR ∧ LS_trace RR ∧ LS_keep RR ∧ LS_row RR ∧ LS_put RR ∧ LS_element RR ∧ LS_shift RR ∧ LS_taken RR ∧ LS_count RR

def f42 : Nat → Int32 := (upd (upd (upd (upd (upd (upd (fun _ => 0) 0 (-1)) 1 (-1)) 2 (-1)) 3 (-1)) 4 (-1)) 5 (-1))
def f61 : Nat → Int32 := (upd (upd (upd (upd (upd (upd (fun _ => 0) 0 (-1)) 1 (-1)) 2 (-1)) 3 (-1)) 4 (-1)) 5 (-1))
def f44 : Nat → Int32 := fun i => if i = 13 then -1 else 0
def fz : Nat → Int32 := fun _ => 0
def S0 : St := (fun v => if v = 42 then f42 else fz, fun _ _ => 0)
def M0 : St := (fun v => if v = 61 then f61 else if v = 44 then f44 else fz, fun _ _ => 0)
