/-! The abstract machine: objects have numbers in the order in which they are made; a heap is (how many, slots made, lengths, references, ints). -/
abbrev Hp : Type := Nat × Nat × (Nat → Nat) × (Nat → Nat → Option Nat) × (Nat → Nat → Int32)
def up1 {α : Type} (f : Nat → α) (k : Nat) (v : α) : Nat → α := fun j => if j = k then v else f j
def up2 {α : Type} (f : Nat → Nat → α) (o k : Nat) (v : α) : Nat → Nat → α := up1 f o (up1 (f o) k v)
def irm (x y : Int32) : Int32 := x - x / y * y
def ius (x y : Int32) : Int32 := (x.toUInt32 >>> (y.toUInt32 &&& Int32.toUInt32 31)).toInt32
def ich (x : Int32) : Int32 := (x.toUInt32 % 65536).toInt32
/-- the kind of an object by its number: 0 .. 8 a class, 9 .. 16 an array -/
def KD (o : Nat) : Nat := cond (Nat.blt o 109) (cond (Nat.blt o 54) (cond (Nat.blt o 22) (cond (Nat.blt o 7) (cond (Nat.blt o 3) (cond (Nat.blt o 1) (7) (cond (Nat.blt o 2) (1) (16))) (cond (Nat.blt o 5) (11) (cond (Nat.blt o 6) (6) (13)))) (cond (Nat.blt o 17) (0) (cond (Nat.blt o 20) (11) (cond (Nat.blt o 21) (6) (13))))) (cond (Nat.blt o 37) (cond (Nat.blt o 32) (0) (cond (Nat.blt o 35) (11) (cond (Nat.blt o 36) (6) (13)))) (cond (Nat.blt o 47) (0) (cond (Nat.blt o 50) (11) (cond (Nat.blt o 52) (cond (Nat.blt o 51) (9) (2)) (cond (Nat.blt o 53) (11) (14))))))) (cond (Nat.blt o 81) (cond (Nat.blt o 67) (cond (Nat.blt o 60) (cond (Nat.blt o 57) (cond (Nat.blt o 55) (3) (cond (Nat.blt o 56) (11) (3))) (cond (Nat.blt o 58) (11) (cond (Nat.blt o 59) (3) (11)))) (cond (Nat.blt o 63) (cond (Nat.blt o 61) (3) (cond (Nat.blt o 62) (11) (15))) (cond (Nat.blt o 65) (cond (Nat.blt o 64) (4) (0)) (cond (Nat.blt o 66) (3) (11))))) (cond (Nat.blt o 74) (cond (Nat.blt o 70) (cond (Nat.blt o 68) (4) (cond (Nat.blt o 69) (0) (3))) (cond (Nat.blt o 72) (cond (Nat.blt o 71) (11) (4)) (cond (Nat.blt o 73) (0) (3)))) (cond (Nat.blt o 77) (cond (Nat.blt o 75) (11) (cond (Nat.blt o 76) (4) (0))) (cond (Nat.blt o 79) (cond (Nat.blt o 78) (3) (11)) (cond (Nat.blt o 80) (4) (0)))))) (cond (Nat.blt o 94) (cond (Nat.blt o 86) (cond (Nat.blt o 82) (3) (cond (Nat.blt o 85) (11) (8))) (cond (Nat.blt o 93) (11) (10))) (cond (Nat.blt o 98) (cond (Nat.blt o 97) (11) (12)) (11))))) (cond (Nat.beq (o % 2) 1) 5 11)
/-- the kind of arrays of a class -/
def okd (ci : Nat) : Nat := cond (Nat.beq ci 0) 13 (cond (Nat.beq ci 3) 14 (cond (Nat.beq ci 4) 15 (cond (Nat.beq ci 5) 16 0)))
def rv (r : Option Nat) : Value := match r with
  | none => .null
  | some a => .ref a
def ov (r : Option Value) (S : List Value) : List Value := match r with
  | none => S
  | some v => v :: S
def padL : Nat → List Value → List (Option Value)
  | 0, _ => []
  | n + 1, [] => none :: padL n []
  | n + 1, a :: r => some a :: padL n r
def ent (m : Nat) (as : List Value) : List (Option Value) := padL (mlM m) as
def gI (h : Hp) : Nat → Nat → Int32 := h.2.2.2.2
def gR (h : Hp) : Nat → Nat → Option Nat := h.2.2.2.1
def gL (h : Hp) : Nat → Nat := h.2.2.1
/-- what is left on the stack at a call; the arguments -/
def okS (r : List Value) : Bool := Nat.ble (r.map fun v => v.category).sum 8
def asOk (a : Nat) (as : List Value) : Bool := Nat.ble as.length (mlM a) && as.all (fun v => Nat.beq v.category 1)
section Stp
variable {β : Type}
def lk (L : List (Option Value)) (i : Nat) (k : Value → β) (f : β) : β := match L, i with
  | [], _ => f
  | a :: _, 0 => match a with
    | some v => k v
    | none => f
  | _ :: r, i + 1 => lk r i k f
def stL (L : List (Option Value)) (i : Nat) (v : Value) (k : List (Option Value) → β) (f : β) : β := match L, i with
  | [], _ => f
  | _ :: r, 0 => k (some v :: r)
  | a :: r, i + 1 => stL r i v (fun r' => k (a :: r')) f
def swF (br : (c : Prop) → Decidable c → β → β → β) (v : Int32) (go : Nat → β) (d : Nat) : List (Int32 × Nat) → β
  | [] => go d
  | (k, t) :: r => br (v = k) inferInstance (go t) (swF br v go d r)
variable (chk : (c : Prop) → Decidable c → β → β) (br : (c : Prop) → Decidable c → β → β → β) (bnd : Value → (Value → β) → β) (go : Nat → List (Option Value) → List Value → Hp → β) (call : Nat → List Value → Hp → (Option Value → Hp → β) → β) (ret : Option Value → Hp → β) (fail : β)
def stp0 (s np a : Nat) (x : Int32) (L : List (Option Value)) (S : List Value) (h : Hp) : β := match s with
  | 0 => go np L (.int x :: S) h
  | 1 => go np L (.int x :: S) h
  | 2 => go np L (.int x :: S) h
  | 3 => go np L (.int x :: S) h
  | 4 => go np L (.int x :: S) h
  | 5 => lk L a (fun v => match v with
    | .int y => go np L (.int y :: S) h
    | _ => fail) fail
  | 6 => lk L a (fun v => match v with
    | .int y => go np L (.int y :: S) h
    | _ => fail) fail
  | 7 => lk L a (fun v => match v with
    | .ref y => go np L (.ref y :: S) h
    | _ => fail) fail
  | 8 => lk L a (fun v => match v with
    | .ref y => go np L (.ref y :: S) h
    | _ => fail) fail
  | _ => fail
def stp1 (s np a : Nat) (x : Int32) (L : List (Option Value)) (S : List Value) (h : Hp) : β := match s, S with
  | 0, .int y :: r => stL L a (.int y) (fun L' => go np L' r h) fail
  | 1, .int y :: r => stL L a (.int y) (fun L' => go np L' r h) fail
  | 2, .ref y :: r => stL L a (.ref y) (fun L' => go np L' r h) fail
  | 3, .ref y :: r => stL L a (.ref y) (fun L' => go np L' r h) fail
  | 4, S => lk L a (fun v => match v with
    | .int y => stL L a (.int (y + x)) (fun L' => go np L' S h) fail
    | _ => fail) fail
  | 5, .int y :: r => go np L (.int y :: .int y :: r) h
  | 5, .ref y :: r => go np L (.ref y :: .ref y :: r) h
  | 6, .int y :: .ref z :: r => go np L (.int y :: .ref z :: .int y :: .ref z :: r) h
  | 7, .int _ :: r => go np L r h
  | 8, S => go a L S h
  | 9, .ref _ :: r => go a L r h
  | 9, .null :: r => go np L r h
  | _, _ => fail
def stp2 (s np : Nat) (L : List (Option Value)) (S : List Value) (h : Hp) : β := match s, S with
  | 0, .int y :: .int x :: r => go np L (.int (x + y) :: r) h
  | 1, .int y :: .int x :: r => go np L (.int (x - y) :: r) h
  | 2, .int y :: .int x :: r => go np L (.int (x * y) :: r) h
  | 3, .int y :: .int x :: r => go np L (.int (x &&& y) :: r) h
  | 4, .int y :: .int x :: r => go np L (.int (x ||| y) :: r) h
  | 5, .int y :: .int x :: r => chk (¬ y = 0) inferInstance (go np L (.int (x / y) :: r) h)
  | 6, .int y :: .int x :: r => chk (¬ y = 0) inferInstance (go np L (.int (irm x y) :: r) h)
  | 7, .int x :: r => go np L (.int (-x) :: r) h
  | 8, .int y :: .int x :: r => go np L (.int (x <<< (y &&& 31)) :: r) h
  | 9, .int y :: .int x :: r => go np L (.int (x >>> (y &&& 31)) :: r) h
  | _, _ => fail
def stp3 (s np a : Nat) (kd : Nat) (sw : List (Int32 × Nat)) (L : List (Option Value)) (S : List Value) (h : Hp) : β := match s, S with
  | 0, .int y :: .int x :: r => go np L (.int (ius x y) :: r) h
  | 1, .int x :: r => go np L (.int x.toInt8.toInt32 :: r) h
  | 2, .int x :: r => go np L (.int x.toInt16.toInt32 :: r) h
  | 3, .int x :: r => go np L (.int (ich x) :: r) h
  | 4, .int x :: r => swF br x (fun t => go t L r h) a sw
  | 5, .int x :: r => swF br x (fun t => go t L r h) a sw
  | 6, .int y :: .int x :: r => cond (Nat.blt 0 kd && Nat.ble r.length 8) (go np L (.int (if y < x then y else x) :: r) h) fail
  | 7, .int y :: .int x :: r => cond (Nat.blt 0 kd && Nat.ble r.length 8) (go np L (.int (if x < y then y else x) :: r) h) fail
  | 8, .int x :: r => cond (Nat.blt 0 kd && Nat.ble r.length 8) (go np L (.int (if 0 ≤ x then x else 0 - x) :: r) h) fail
  | _, _ => fail
def stp4 (s np a : Nat) (L : List (Option Value)) (S : List Value) (h : Hp) : β := match s, S with
  | 0, .int x :: r => br (x = 0) inferInstance (go a L r h) (go np L r h)
  | 1, .int x :: r => br (¬ x = 0) inferInstance (go a L r h) (go np L r h)
  | 2, .int x :: r => br (x < 0) inferInstance (go a L r h) (go np L r h)
  | 3, .int x :: r => br (0 ≤ x) inferInstance (go a L r h) (go np L r h)
  | 4, .int x :: r => br (0 < x) inferInstance (go a L r h) (go np L r h)
  | 5, .int x :: r => br (x ≤ 0) inferInstance (go a L r h) (go np L r h)
  | _, _ => fail
def stp5 (s np a : Nat) (L : List (Option Value)) (S : List Value) (h : Hp) : β := match s, S with
  | 0, .int y :: .int x :: r => br (x = y) inferInstance (go a L r h) (go np L r h)
  | 1, .int y :: .int x :: r => br (¬ x = y) inferInstance (go a L r h) (go np L r h)
  | 2, .int y :: .int x :: r => br (x < y) inferInstance (go a L r h) (go np L r h)
  | 3, .int y :: .int x :: r => br (y ≤ x) inferInstance (go a L r h) (go np L r h)
  | 4, .int y :: .int x :: r => br (y < x) inferInstance (go a L r h) (go np L r h)
  | 5, .int y :: .int x :: r => br (x ≤ y) inferInstance (go a L r h) (go np L r h)
  | _, _ => fail
def stp6 (s np a b : Nat) (L : List (Option Value)) (S : List Value) (h : Hp) : β := match h with
  | (nx, sl, ln, R, I) => match s, S with
    | 0, .ref o :: r => chk (KD o = a ∧ o < nx) inferInstance (go np L (.int (I o b) :: r) (nx, sl, ln, R, I))
    | 1, .ref o :: r => chk (KD o = a ∧ o < nx) inferInstance (bnd (rv (R o b)) (fun v => go np L (v :: r) (nx, sl, ln, R, I)))
    | 2, .int v :: .ref o :: r => chk (KD o = a ∧ o < nx) inferInstance (go np L r (nx, sl, ln, R, up2 I o b v))
    | 3, .int v :: .ref o :: r => chk ((KD o = a ∧ o < nx) ∧ (v = 0 ∨ v = 1)) inferInstance (go np L r (nx, sl, ln, R, up2 I o b v))
    | 4, .int v :: .ref o :: r => chk (KD o = a ∧ o < nx) inferInstance (go np L r (nx, sl, ln, R, up2 I o b v))
    | 5, .ref v :: .ref o :: r => chk (KD o = a ∧ o < nx) inferInstance (go np L r (nx, sl, ln, up2 R o b (some v), I))
    | _, _ => fail
def stp7 (s np : Nat) (L : List (Option Value)) (S : List Value) (h : Hp) : β := match h with
  | (nx, sl, ln, R, I) => match s, S with
    | 0, .int i :: .ref o :: r => chk ((KD o = 11 ∧ o < nx) ∧ ¬ i < 0 ∧ i.toNatClampNeg < ln o) inferInstance (go np L (.int (I o i.toNatClampNeg) :: r) (nx, sl, ln, R, I))
    | 1, .int i :: .ref o :: r => chk ((KD o = 9 ∧ o < nx) ∧ ¬ i < 0 ∧ i.toNatClampNeg < ln o) inferInstance (go np L (.int (I o i.toNatClampNeg) :: r) (nx, sl, ln, R, I))
    | 2, .int i :: .ref o :: r => chk ((KD o = 12 ∧ o < nx) ∧ ¬ i < 0 ∧ i.toNatClampNeg < ln o) inferInstance (go np L (.int (I o i.toNatClampNeg) :: r) (nx, sl, ln, R, I))
    | 3, .int i :: .ref o :: r => chk ((KD o = 10 ∧ o < nx) ∧ ¬ i < 0 ∧ i.toNatClampNeg < ln o) inferInstance (go np L (.int (I o i.toNatClampNeg) :: r) (nx, sl, ln, R, I))
    | 4, .int i :: .ref o :: r => chk ((12 < KD o ∧ o < nx) ∧ ¬ i < 0 ∧ i.toNatClampNeg < ln o) inferInstance (bnd (rv (R o i.toNatClampNeg)) (fun v => go np L (v :: r) (nx, sl, ln, R, I)))
    | 5, .int x :: .int i :: .ref o :: r => chk ((KD o = 11 ∧ o < nx) ∧ ¬ i < 0 ∧ i.toNatClampNeg < ln o) inferInstance (go np L r (nx, sl, ln, R, up2 I o i.toNatClampNeg x))
    | 6, .int x :: .int i :: .ref o :: r => chk ((KD o = 9 ∧ o < nx) ∧ ¬ i < 0 ∧ i.toNatClampNeg < ln o) inferInstance (go np L r (nx, sl, ln, R, up2 I o i.toNatClampNeg (vp_nar .byte x)))
    | 7, .int x :: .int i :: .ref o :: r => chk ((KD o = 12 ∧ o < nx) ∧ ¬ i < 0 ∧ i.toNatClampNeg < ln o) inferInstance (go np L r (nx, sl, ln, R, up2 I o i.toNatClampNeg (vp_nar .boolean x)))
    | 8, .int x :: .int i :: .ref o :: r => chk ((KD o = 10 ∧ o < nx) ∧ ¬ i < 0 ∧ i.toNatClampNeg < ln o) inferInstance (go np L r (nx, sl, ln, R, up2 I o i.toNatClampNeg (vp_nar .char x)))
    | 9, .ref v :: .int i :: .ref o :: r => chk (((12 < KD o ∧ KD o < 17 ∧ o < nx) ∧ ¬ i < 0 ∧ i.toNatClampNeg < ln o) ∧ v < nx ∧ KD o = okd (KD v)) inferInstance (go np L r (nx, sl, ln, up2 R o i.toNatClampNeg (some v), I))
    | _, _ => fail
def stp8 (kd : Nat) (s np a : Nat) (L : List (Option Value)) (S : List Value) (h : Hp) : β := match h with
  | (nx, sl, ln, R, I) => match s, S with
    | 0, .ref o :: r => chk (8 < KD o ∧ KD o < 17 ∧ o < nx) inferInstance (go np L (.int (Int32.ofNat (ln o)) :: r) (nx, sl, ln, R, I))
    | 1, .int n :: r => chk (¬ n < 0 ∧ n.toNatClampNeg ≤ 20000 ∧ KD nx = a) inferInstance (go np L (.ref nx :: r) (nx + 1, sl + n.toNatClampNeg, up1 ln nx n.toNatClampNeg, R, up1 I nx (fun _ => 0)))
    | 2, .int n :: r => chk (¬ n < 0 ∧ n.toNatClampNeg ≤ 20000 ∧ KD nx = a) inferInstance (go np L (.ref nx :: r) (nx + 1, sl + n.toNatClampNeg, up1 ln nx n.toNatClampNeg, up1 R nx (fun _ => none), I))
    | 3, S => chk (KD nx = a) inferInstance (go np L (.ref nx :: S) (nx + 1, sl + nF a, ln, up1 R nx (fun _ => none), up1 I nx (fun _ => 0)))
    | 4, .int n :: .int dp :: .ref d :: .int sp :: .ref o :: r => cond (Nat.blt 0 kd && Nat.ble r.length 8) (chk ((KD o = 11 ∧ o < nx) ∧ (KD d = 11 ∧ d < nx) ∧ ¬ sp < 0 ∧ ¬ dp < 0 ∧ ¬ n < 0 ∧ sp.toNatClampNeg + n.toNatClampNeg ≤ ln o ∧ dp.toNatClampNeg + n.toNatClampNeg ≤ ln d) inferInstance (go np L r (nx, sl, ln, R, up1 I d (va_cpy (I o) (I d) sp.toNatClampNeg dp.toNatClampNeg n.toNatClampNeg)))) fail
    | 5, [.int v] => ret (some (.int v)) (nx, sl, ln, R, I)
    | 6, [.int v] => chk (v = 0 ∨ v = 1) inferInstance (ret (some (.int v)) (nx, sl, ln, R, I))
    | 7, [.ref v] => ret (some (.ref v)) (nx, sl, ln, R, I)
    | 8, [] => ret none (nx, sl, ln, R, I)
    | _, _ => fail
def stp9 (kd : Nat) (s np a b e : Nat) (L : List (Option Value)) (S : List Value) (h : Hp) : β := match s with
  | 0 => cond (Nat.ble b S.length && okS (S.drop b) && asOk a (S.take b).reverse) (call a (S.take b).reverse h (fun r h' => go np L (ov r (S.drop b)) h')) fail
  | 1 => cond (Nat.ble b S.length && okS (S.drop b) && asOk a (S.take b).reverse) (call a (S.take b).reverse h (fun r h' => go np L (ov r (S.drop b)) h')) fail
  | 2 => match S.drop b with
    | .ref o :: rest => cond (okS rest && asOk a (.ref o :: (S.take b).reverse)) (chk (KD o = e ∧ o < h.1) inferInstance (call a (.ref o :: (S.take b).reverse) h (fun r h' => go np L (ov r rest) h'))) fail
    | _ => fail
  | 3 => match S.drop b with
    | .ref o :: rest => cond (okS rest && asOk a (.ref o :: (S.take b).reverse)) (call a (.ref o :: (S.take b).reverse) h (fun r h' => go np L (ov r rest) h')) fail
    | _ => fail
  | 4 => match S.drop b with
    | .ref o :: rest => cond (okS rest && asOk a (.ref o :: (S.take b).reverse)) (call a (.ref o :: (S.take b).reverse) h (fun r h' => go np L (ov r rest) h')) fail
    | _ => fail
  | 5 => match S with
    | .ref _ :: r => cond (Nat.blt 0 kd && Nat.ble r.length 8) (go np L r h) fail
    | _ => fail
  | _ => fail
/-- one instruction -/
def stp (kd : Nat) (ai : AI) (L : List (Option Value)) (S : List Value) (h : Hp) : β := match ai with
  | (g, s, np, a, b, _, _, e, x, sw, _) => match g with
    | 0 => stp0 go fail s np a x L S h
    | 1 => stp1 go fail s np a x L S h
    | 2 => stp2 chk go fail s np L S h
    | 3 => stp3 br go fail s np a kd sw L S h
    | 4 => stp4 br go fail s np a L S h
    | 5 => stp5 br go fail s np a L S h
    | 6 => stp6 chk bnd go fail s np a b L S h
    | 7 => stp7 chk bnd go fail s np L S h
    | 8 => stp8 chk go ret fail kd s np a L S h
    | 9 => stp9 chk go call fail kd s np a b e L S h
    | _ => fail
end Stp
/-- what Jug.isOf answers: the kinds above a kind -/
def kAb (k : Nat) : Int32 := match k with
  | 0 => -1
  | 3 => 1
  | 4 => 2
  | _ => 0
def isOfF : Nat → Int32 → Int32 → Int32
  | 0, _, _ => 0
  | n + 1, above, w => if 0 ≤ above ∧ above < 6 then (if above = w then 1 else isOfF n (kAb above.toNatClampNeg) w) else 0
/-- a byte of the tape, as the reader sees it -/
def bAt (I : Nat → Nat → Int32) (tp : Nat) (p : Int32) : Int32 := if 0 ≤ p ∧ p < 96 then I tp p.toNatClampNeg &&& 255 else 0
def isWdF (I : Nat → Nat → Int32) (o tp : Nat) (w : List Int32) : Bool := decide (I o 5 = -2) && decide (I o 6 - I o 7 = Int32.ofNat w.length) && (List.range w.length).all (fun i => decide (bAt I tp (I o 7 + Int32.ofNat i) = w.getD i 0))
def keyF (I : Nat → Nat → Int32) (o tp : Nat) : Int32 := if isWdF I o tp [119, 97, 110, 116] then 0 else if isWdF I o tp [102, 101, 101] then 1 else if isWdF I o tp [102, 105, 110, 101] then 2 else -1
def nmF (key ch : Int32) : Bool := if key = 0 then decide (ch = 109 ∨ ch = 98 ∨ ch = 104 ∨ ch = 110) else if key = 1 then decide (ch = 103 ∨ ch = 115) else decide (ch = 109 ∨ ch = 98)
def isNmF (I : Nat → Nat → Int32) (o tp : Nat) : Int32 := if I o 5 = -2 ∧ I o 6 - I o 7 = 1 ∧ nmF (I o 8) (bAt I tp (I o 7)) = true then 1 else 0
/-- the methods whose contracts are proved by hand -/
def prm (m : Nat) (as : List Value) (h : Hp) : Option (Option Value × Hp) :=
  if m = mX0_isOf then match as with
    | [.ref o, .int w] => if KD o = 0 ∧ o < h.1 then some (some (.int (isOfF 6 (gI h o 0) w)), h) else none
    | _ => none
  else if m = mX2_keyRead then match as with
    | [.ref o] => match gR h o 0 with
      | some tp => if KD o = 2 ∧ o < h.1 ∧ KD tp = 9 ∧ tp < h.1 ∧ gL h tp = 96 then some (some (.int (keyF (gI h) o tp)), h) else none
      | none => none
    | _ => none
  else if m = mX2_isName then match as with
    | [.ref o] => match gR h o 0 with
      | some tp => if KD o = 2 ∧ o < h.1 ∧ KD tp = 9 ∧ tp < h.1 ∧ gL h tp = 96 then some (some (.int (isNmF (gI h) o tp)), h) else none
      | none => none
    | _ => none
  else none
abbrev Rs : Type := Option (Option Value × Hp)
def chkO (c : Prop) (i : Decidable c) (b : Rs) : Rs := @ite _ c i b none
def brO (c : Prop) (i : Decidable c) (a b : Rs) : Rs := @ite _ c i a b
def bndO (v : Value) (f : Value → Rs) : Rs := f v
def callO (k : Nat) (ex : Nat → Nat → List Value → Hp → Rs) (a : Nat) (as : List Value) (h : Hp) (f : Option Value → Hp → Rs) : Rs := match k with
  | 0 => none
  | k' + 1 => match cond (isP a) (prm a as h) (ex k' a as h) with
    | none => none
    | some (r, h') => f r h'
/-- fuel, depth of calls that is left, method, program counter, locals, stack, heap -/
def run : Nat → Nat → Nat → Nat → List (Option Value) → List Value → Hp → Rs
  | 0, _, _, _, _, _, _ => none
  | n + 1, k, m, pc, L, S, h => match cd m pc with
    | none => none
    | some ai => stp chkO brO bndO (fun pc' L' S' h' => run n k m pc' L' S' h') (callO k (fun k' a as h' => run n k' a 0 (ent a as) [] h')) (fun r h' => some (r, h')) none k ai L S h
/-- from a frame: it ends, with Q -/
def GoF (k m pc : Nat) (L : List (Option Value)) (S : List Value) (h : Hp) (Q : Option Value → Hp → Prop) : Prop := ∃ n r h', run n k m pc L S h = some (r, h') ∧ Q r h'
/-- a call: it ends, with Q -/
def Go (k a : Nat) (as : List Value) (h : Hp) (Q : Option Value → Hp → Prop) : Prop := ∃ n r h', cond (isP a) (prm a as h) (run n k a 0 (ent a as) [] h) = some (r, h') ∧ Q r h'
def chkP (c : Prop) (_ : Decidable c) (b : Prop) : Prop := c ∧ b
def brP (c : Prop) (_ : Decidable c) (a b : Prop) : Prop := (c → a) ∧ (¬ c → b)
def bndP (v : Value) (f : Value → Prop) : Prop := ∃ w, v = w ∧ f w
def callP (k a : Nat) (as : List Value) (h : Hp) (f : Option Value → Hp → Prop) : Prop := match k with
  | 0 => False
  | k' + 1 => Go k' a as h f
def flg (ai : AI) : Bool := ai.2.2.2.2.2.2.2.2.2.2
/-- what must hold so that it ends with Q: up to calls and loop heads -/
def wp : Nat → Nat → Nat → Nat → List (Option Value) → List Value → Hp → (Option Value → Hp → Prop) → Prop
  | 0, k, m, pc, L, S, h, Q => GoF k m pc L S h Q
  | n + 1, k, m, pc, L, S, h, Q => match cd m pc with
    | none => False
    | some ai => cond (flg ai) (GoF k m pc L S h Q) (stp chkP brP bndP (fun pc' L' S' h' => wp n k m pc' L' S' h' Q) (callP k) Q False k ai L S h)
/-- the same, from a loop head -/
def wp1 (n k m pc : Nat) (L : List (Option Value)) (S : List Value) (h : Hp) (Q : Option Value → Hp → Prop) : Prop := match cd m pc with
  | none => False
  | some ai => stp chkP brP bndP (fun pc' L' S' h' => wp n k m pc' L' S' h' Q) (callP k) Q False k ai L S h
