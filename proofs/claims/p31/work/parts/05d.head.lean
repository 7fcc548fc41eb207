/-! words that the methods' texts are made of -/
/-- the letters of the words, by their numbers -/
def wBytes (i : Nat) : List Int := match i with
  | 0 => [112, 105, 99, 116, 117, 114, 101]
  | 1 => [116, 111, 110, 101, 115]
  | 2 => [112, 108, 97, 116, 101]
  | 3 => [105, 110, 107]
  | 4 => [108, 105, 109, 105, 116]
  | 5 => [99, 117, 114, 118, 101]
  | 6 => [116, 111, 110, 101]
  | 7 => [120]
  | 8 => [121]
  | 9 => [114, 111, 117, 110, 100]
  | 10 => [108, 105, 110, 101]
  | 11 => [100, 105, 97, 109, 111, 110, 100]
  | _ => [115, 113, 117, 97, 114, 101]
def mCpy (μ : Mem) (src sp dst dp n : Int) : Mem := fun a k => if a = dst ∧ dp ≤ k ∧ k < dp + n then μ src (sp + (k - dp)) else μ a k
def ACP (src sp dst dp n : Int) (μ : Mem) (K : Mem → Rz) : Rz := if (0 < dst ∧ 0 < src) ∧ src ≠ dst ∧ μ src (-1) = 21 ∧ μ dst (-1) = 21 ∧ 0 ≤ sp ∧ 0 ≤ dp ∧ 0 ≤ n ∧ sp + n ≤ μ src (-2) ∧ dp + n ≤ μ dst (-2) then K (mCpy μ src sp dst dp n) else none
/-- new int[4][192] -/
def mMul (μ : Mem) : Mem := fun a k => if a = μ 0 0 then (if k = -1 then 27 else if k = -2 then 4 else if 0 ≤ k ∧ k < 4 then μ 0 0 + 1 + k else 0) else if μ 0 0 < a ∧ a ≤ μ 0 0 + 4 then (if k = -1 then 21 else if k = -2 then 192 else 0) else if a = 0 ∧ k = 0 then μ 0 0 + 5 else if a = 0 ∧ k = 1 then μ 0 1 + 5 else if a = 0 ∧ k = 2 then μ 0 2 + 772 else μ a k
def NM (n k : Int) (μ : Mem) (K : Int → Mem → Rz) : Rz := if 0 < μ 0 0 ∧ n = 4 ∧ k = 192 then K (μ 0 0) (mMul μ) else none
def RTZ (v : Int) (μ : Mem) : Rz := if v = 0 ∨ v = 1 then some (0, v, μ) else none
def RTC (v : Int) (μ : Mem) : Rz := if 0 ≤ v ∧ v < 65536 then some (0, v, μ) else none
def RTB (v : Int) (μ : Mem) : Rz := if -128 ≤ v ∧ v < 128 then some (0, v, μ) else none
def LT (z : Int) (K : Int → Rz) : Rz := K z
/-- more rounds than any loop takes -/
def FU : Nat := 20000
def strLen (i : Int) : Int := ((wBytes i.toNat).length : Int)
def strCh (i j : Int) : Int := (wBytes i.toNat).getD j.toNat 0
def STL (i : Int) (K : Int → Rz) : Rz := if 0 ≤ i ∧ i < 13 then K (strLen i) else none
def STC (i j : Int) (K : Int → Rz) : Rz := if (0 ≤ i ∧ i < 13) ∧ 0 ≤ j ∧ j < strLen i then K (strCh i j) else none
def RTL (v : Int) (μ : Mem) : Rz := if v = 1 then some (0, v, μ) else none
/-- the bytes of the law's String constants, by their numbers -/
def fBytes (i : Nat) : List Int := match i with
  | 0 => [114, 111, 117, 110, 100]
  | 1 => [108, 105, 110, 101]
  | 2 => [100, 105, 97, 109, 111, 110, 100]
  | 3 => [115, 113, 117, 97, 114, 101]
  | 4 => [112, 105, 99, 116, 117, 114, 101, 32]
  | 5 => [32]
  | 6 => [59, 108, 105, 109, 105, 116, 32]
  | 7 => [59, 116, 111, 110, 101, 115]
  | _ => [112, 108, 97, 116, 101, 32]
def isB (z : Int) : Bool := decide (-128 ≤ z ∧ z < 128)
/-- System.arraycopy of bytes -/
def ACK (src sp dst dp n : Int) (μ : Mem) (K : Mem → Rz) : Rz := if (0 < dst ∨ dst < -21) ∧ μ src (-1) = 20 ∧ μ dst (-1) = 20 ∧ 0 ≤ sp ∧ 0 ≤ dp ∧ 0 ≤ n ∧ (sp + n ≤ μ src (-2) ∧ dp + n ≤ μ dst (-2)) ∧ (List.range n.toNat).all (fun j => isB (μ src (sp + j))) = true then K (mCpy μ src sp dst dp n) else none
/-- what an Object[] may hold here: null, a Place, the law's Screen -/
def isEl (μ : Mem) (z : Int) : Bool := decide (z = 0 ∨ μ z (-1) = 8 ∨ μ z (-1) = 9)
/-- System.arraycopy of references -/
def ACQ (src sp dst dp n : Int) (μ : Mem) (K : Mem → Rz) : Rz := if ((0 < dst ∨ dst < -21) ∧ (0 < src ∨ src < -21)) ∧ μ src (-1) = 22 ∧ μ dst (-1) = 22 ∧ (0 ≤ sp ∧ 0 ≤ dp ∧ 0 ≤ n ∧ sp + n ≤ μ src (-2) ∧ dp + n ≤ μ dst (-2)) ∧ (List.range n.toNat).all (fun j => isEl μ (μ src (sp + j))) = true then K (mCpy μ src sp dst dp n) else none
/-- a byte[] that is cloned -/
def mCln (μ : Mem) (a : Int) : Mem := fun b k => if b = μ 0 3 then μ a k else if b = 0 ∧ k = 3 then μ 0 3 - 1 else if b = 0 ∧ k = 1 then μ 0 1 + 1 else if b = 0 ∧ k = 2 then μ 0 2 + μ a (-2) else μ b k
def CLN (a : Int) (μ : Mem) (K : Int → Mem → Rz) : Rz := if (μ 0 3 < -21 ∧ (0 < a ∨ a < -21)) ∧ μ a (-1) = 20 ∧ 0 ≤ μ a (-2) ∧ (List.range (μ a (-2)).toNat).all (fun j => isB (μ a j)) = true then K (μ 0 3) (mCln μ a) else none
/-- new int[h][w], made by the law -/
def mMulN (μ : Mem) (h w : Int) : Mem := fun a k => if a = μ 0 3 then (if k = -1 then 27 else if k = -2 then h else if 0 ≤ k ∧ k < h then μ 0 3 - 1 - k else 0) else if μ 0 3 - h ≤ a ∧ a < μ 0 3 then (if k = -1 then 21 else if k = -2 then w else 0) else if a = 0 ∧ k = 3 then μ 0 3 - 1 - h else if a = 0 ∧ k = 1 then μ 0 1 + 1 + h else if a = 0 ∧ k = 2 then μ 0 2 + h + h * w else μ a k
def NMn (h w : Int) (μ : Mem) (K : Int → Mem → Rz) : Rz := if μ 0 3 < -21 ∧ (1 ≤ h ∧ h ≤ 100) ∧ 1 ≤ w ∧ w ≤ 100 then K (μ 0 3) (mMulN μ h w) else none
/-- an index that is tested -/
def CHK (i n : Int) (r : Rz) : Rz := if 0 ≤ i ∧ i < n then r else none
