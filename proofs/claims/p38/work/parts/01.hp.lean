abbrev HP : Type := Nat → Int → Int → Int
def upr (h : HP) (k : Nat) (i : Int) (g : Int → Int) : HP := fun k' => if k' = k then (fun i' => if i' = i then g else h k i') else h k'
def up (h : HP) (k : Nat) (i j v : Int) : HP := upr h k i (fun j' => if j' = j then v else h k i j')
abbrev inR (x : Int) : Prop := -2147483648 ≤ x ∧ x < 2147483648
def kClsL : List Nat := [0, 1, 2, 3, 4, 5, 6, 7, 8, 9, 10, 11, 12, 99, 99, 99, 99, 99, 99, 99, 99, 99, 99, 96, 99, 99, 99, 99, 99, 99, 99, 99, 99, 99, 99, 99, 99, 99, 99, 99, 99, 99, 99, 99, 99, 99, 99, 99]
def kLenL : List Nat := [4, 7, 4, 4, 8, 3, 18, 4, 10, 7, 2, 21, 0, 36, 36, 36, 36, 36, 1152, 1152, 220, 1536, 12, 40, 12, 12, 12, 13, 12, 13, 240, 12, 8, 13, 8, 8, 8, 12, 13, 156, 8, 8, 8, 8, 96, 700, 3, 3]
def kCls (k : Nat) : Nat := kClsL.getD k 94
def kLen (k : Nat) : Nat := kLenL.getD k 0
def bShl (x y : Int) : Int := (Int32.ofInt x <<< (Int32.ofInt y &&& 31)).toInt
def bShr (x y : Int) : Int := (Int32.ofInt x >>> (Int32.ofInt y &&& 31)).toInt
def bUshr (x y : Int) : Int := ((Int32.ofInt x).toUInt32 >>> ((Int32.ofInt y).toUInt32 &&& Int32.toUInt32 31)).toInt32.toInt
def bAnd (x y : Int) : Int := (Int32.ofInt x &&& Int32.ofInt y).toInt
def bOr (x y : Int) : Int := (Int32.ofInt x ||| Int32.ofInt y).toInt
def bXor (x y : Int) : Int := (Int32.ofInt x ^^^ Int32.ofInt y).toInt
def strLen : List Nat := [5, 5, 5, 5, 4, 2, 3, 1, 6, 6, 6]
def strByt : List (List Int32) := [[103, 114, 97, 110, 116], [115, 104, 97, 114, 101], [117, 112, 112, 101, 114], [99, 108, 97, 115, 115], [102, 108, 111, 119], [105, 110], [32, 105, 110], [59], [32, 103, 114, 97, 110, 116], [32, 115, 104, 97, 114, 101], [32, 117, 112, 112, 101, 114]]
def strL (k : Int) : Int := ((strLen.getD k.toNat 0 : Nat) : Int)
def strC (k i : Int) : Int := ((strByt.getD k.toNat []).getD i.toNat 0).toInt
