/-! whole numbers for ints and longs: an int of the machine is Int32.ofInt z, z in i32 -/
def w32 (z : Int) : Int := Int.bmod z 4294967296
def w64 (z : Int) : Int := Int.bmod z 18446744073709551616
def w8 (z : Int) : Int := Int.bmod z 256
def i32 (z : Int) : Prop := -2147483648 ≤ z ∧ z < 2147483648
def i64 (z : Int) : Prop := -9223372036854775808 ≤ z ∧ z < 9223372036854775808
theorem w32_i (z : Int) : i32 (w32 z) := by
  unfold i32 w32
  have h1 := Int.le_bmod (x := z) (m := 4294967296) (by decide)
  have h2 := Int.bmod_lt (x := z) (m := 4294967296) (by decide)
  omega
theorem w64_i (z : Int) : i64 (w64 z) := by
  unfold i64 w64
  have h1 := Int.le_bmod (x := z) (m := 18446744073709551616) (by decide)
  have h2 := Int.bmod_lt (x := z) (m := 18446744073709551616) (by decide)
  omega
theorem w8_i (z : Int) : -128 ≤ w8 z ∧ w8 z < 128 := by
  unfold w8
  have h1 := Int.le_bmod (x := z) (m := 256) (by decide)
  have h2 := Int.bmod_lt (x := z) (m := 256) (by decide)
  omega
theorem w32_eq {z : Int} (h1 : -2147483648 ≤ z) (h2 : z < 2147483648) : w32 z = z := by
  unfold w32
  exact Int.bmod_eq_of_le_mul_two (by omega) (by omega)
theorem w64_eq {z : Int} (h1 : -9223372036854775808 ≤ z) (h2 : z < 9223372036854775808) : w64 z = z := by
  unfold w64
  exact Int.bmod_eq_of_le_mul_two (by omega) (by omega)
theorem w8_eq {z : Int} (h1 : -128 ≤ z) (h2 : z < 128) : w8 z = z := by
  unfold w8
  exact Int.bmod_eq_of_le_mul_two (by omega) (by omega)
theorem oi_to {z : Int} (h : i32 z) : (Int32.ofInt z).toInt = z := by
  rw [Int32.toInt_ofInt]
  exact w32_eq h.1 h.2
theorem oi_of (x : Int32) : Int32.ofInt x.toInt = x := Int32.ofInt_toInt x
theorem oi_w (z : Int) : Int32.ofInt (w32 z) = Int32.ofInt z := by
  apply Int32.toInt_inj.mp
  rw [Int32.toInt_ofInt, Int32.toInt_ofInt]
  unfold w32
  exact Int.bmod_bmod
theorem oi_add (a b : Int) : Int32.ofInt a + Int32.ofInt b = Int32.ofInt (w32 (a + b)) := by
  rw [oi_w, Int32.ofInt_add]
theorem oi_sub (a b : Int) : Int32.ofInt a - Int32.ofInt b = Int32.ofInt (w32 (a - b)) := by
  rw [oi_w, Int32.ofInt_sub]
theorem oi_mul (a b : Int) : Int32.ofInt a * Int32.ofInt b = Int32.ofInt (w32 (a * b)) := by
  rw [oi_w, Int32.ofInt_mul]
theorem oi_neg (a : Int) : -Int32.ofInt a = Int32.ofInt (w32 (-a)) := by
  rw [oi_w, Int32.ofInt_neg]
theorem oi_lt {a b : Int} (ha : i32 a) (hb : i32 b) : Int32.ofInt a < Int32.ofInt b ↔ a < b := by
  rw [Int32.lt_iff_toInt_lt, oi_to ha, oi_to hb]
theorem oi_le {a b : Int} (ha : i32 a) (hb : i32 b) : Int32.ofInt a ≤ Int32.ofInt b ↔ a ≤ b := by
  rw [Int32.le_iff_toInt_le, oi_to ha, oi_to hb]
theorem oi_eq {a b : Int} (ha : i32 a) (hb : i32 b) : Int32.ofInt a = Int32.ofInt b ↔ a = b := by
  rw [← Int32.toInt_inj, oi_to ha, oi_to hb]
theorem i32_0 : i32 0 := by unfold i32; omega
theorem oi_0 : Int32.ofInt 0 = 0 := by decide
theorem oi_div {a b : Int} (ha : i32 a) (hb : i32 b) : Int32.ofInt a / Int32.ofInt b = Int32.ofInt (w32 (a.tdiv b)) := by
  apply Int32.toInt_inj.mp
  rw [Int32.toInt_div, oi_to ha, oi_to hb, oi_to (w32_i _)]
  rfl
theorem oi_rem {a b : Int} (ha : i32 a) (hb : i32 b) : Int32.ofInt a - Int32.ofInt a / Int32.ofInt b * Int32.ofInt b = Int32.ofInt (a.tmod b) := by
  rw [oi_div ha hb, oi_w, ← Int32.ofInt_mul, ← Int32.ofInt_sub, Int.tmod_def, Int.mul_comm]
theorem tmod_i {a b : Int} (ha : i32 a) : i32 (a.tmod b) := by
  obtain ⟨h1, h2⟩ := ha
  unfold i32
  have hn : (a.tmod b).natAbs ≤ a.natAbs := by
    rw [Int.natAbs_tmod]
    exact Nat.mod_le _ _
  rcases Int.le_total 0 a with h | h
  · have := Int.tmod_nonneg b h
    omega
  · have : a.tmod b ≤ 0 := by
      have h3 : 0 ≤ (-a).tmod b := Int.tmod_nonneg b (by omega)
      rw [Int.neg_tmod] at h3
      omega
    omega
theorem lo_to {z : Int} (h : i64 z) : (Int64.ofInt z).toInt = z := by
  rw [Int64.toInt_ofInt]
  exact w64_eq h.1 h.2
theorem lo_of (x : Int64) : Int64.ofInt x.toInt = x := Int64.ofInt_toInt x
theorem lo_w (z : Int) : Int64.ofInt (w64 z) = Int64.ofInt z := by
  apply Int64.toInt_inj.mp
  rw [Int64.toInt_ofInt, Int64.toInt_ofInt]
  unfold w64
  exact Int.bmod_bmod
theorem lo_add (a b : Int) : Int64.ofInt a + Int64.ofInt b = Int64.ofInt (w64 (a + b)) := by
  rw [lo_w, Int64.ofInt_add]
theorem lo_sub (a b : Int) : Int64.ofInt a - Int64.ofInt b = Int64.ofInt (w64 (a - b)) := by
  rw [lo_w, Int64.ofInt_sub]
theorem lo_mul (a b : Int) : Int64.ofInt a * Int64.ofInt b = Int64.ofInt (w64 (a * b)) := by
  rw [lo_w, Int64.ofInt_mul]
theorem lo_lt {a b : Int} (ha : i64 a) (hb : i64 b) : Int64.ofInt a < Int64.ofInt b ↔ a < b := by
  rw [Int64.lt_iff_toInt_lt, lo_to ha, lo_to hb]
theorem lo_eq {a b : Int} (ha : i64 a) (hb : i64 b) : Int64.ofInt a = Int64.ofInt b ↔ a = b := by
  rw [← Int64.toInt_inj, lo_to ha, lo_to hb]
theorem lo_div {a b : Int} (ha : i64 a) (hb : i64 b) : Int64.ofInt a / Int64.ofInt b = Int64.ofInt (w64 (a.tdiv b)) := by
  apply Int64.toInt_inj.mp
  rw [Int64.toInt_div, lo_to ha, lo_to hb, lo_to (w64_i _)]
  rfl
theorem i64_of32 {z : Int} (h : i32 z) : i64 z := by
  unfold i32 at h
  unfold i64
  omega
theorem i64_0 : i64 0 := by unfold i64; omega
theorem lo_0 : Int64.ofInt 0 = 0 := by decide
theorem oi_l {z : Int} (h : i32 z) : (Int32.ofInt z).toInt64 = Int64.ofInt z := by
  apply Int64.toInt_inj.mp
  rw [Int32.toInt_toInt64, oi_to h, lo_to (i64_of32 h)]
theorem lo_i (z : Int) : (Int64.ofInt z).toInt32 = Int32.ofInt (w32 z) := by
  apply Int32.toInt_inj.mp
  rw [Int64.toInt_toInt32, Int64.toInt_ofInt, oi_to (w32_i _)]
  unfold w32
  exact Int.bmod_bmod_of_dvd (by decide)
theorem oi_b (z : Int) : (Int32.ofInt z).toInt8.toInt32 = Int32.ofInt (w8 z) := by
  apply Int32.toInt_inj.mp
  have h8 := w8_i z
  rw [Int8.toInt_toInt32, Int32.toInt_toInt8, Int32.toInt_ofInt, oi_to (by unfold i32; omega)]
  unfold w8
  exact Int.bmod_bmod_of_dvd (by decide)
def bAnd (a b : Int) : Int := (Int32.ofInt a &&& Int32.ofInt b).toInt
def bOr (a b : Int) : Int := (Int32.ofInt a ||| Int32.ofInt b).toInt
def bXor (a b : Int) : Int := (Int32.ofInt a ^^^ Int32.ofInt b).toInt
def bShl (a b : Int) : Int := (Int32.ofInt a <<< (Int32.ofInt b &&& 31)).toInt
def bShr (a b : Int) : Int := (Int32.ofInt a >>> (Int32.ofInt b &&& 31)).toInt
def bUsh (a b : Int) : Int := (((Int32.ofInt a).toUInt32 >>> ((Int32.ofInt b).toUInt32 &&& Int32.toUInt32 31)).toInt32).toInt
def bC (a : Int) : Int := (((Int32.ofInt a).toUInt32 % 65536).toInt32).toInt
theorem i32_to (x : Int32) : i32 x.toInt := ⟨Int32.le_toInt x, Int32.toInt_lt x⟩
theorem i64_to (x : Int64) : i64 x.toInt := ⟨Int64.le_toInt x, Int64.toInt_lt x⟩
def cLong (a b : Int) : Int := if b < a then 1 else if a = b then 0 else -1
theorem cLong_i (a b : Int) : i32 (cLong a b) := by
  unfold cLong i32
  split
  · omega
  · split <;> omega
theorem lg_cmp_c {a b : Int} (ha : i64 a) (hb : i64 b) : lg_cmp (Int64.ofInt a) (Int64.ofInt b) = Int32.ofInt (cLong a b) := by
  unfold lg_cmp cLong
  simp only [gt_iff_lt, lo_lt hb ha, lo_eq ha hb]
  split
  · decide
  · split <;> decide
def dBits (z : Int) : UInt64 := UInt64.ofNat z.toNat
def fBits (z : Int) : UInt32 := UInt32.ofNat z.toNat
def dI (u : UInt64) : Int := u.toNat
def fI (u : UInt32) : Int := u.toNat
theorem dBits_I (u : UInt64) : dBits (dI u) = u := by
  unfold dBits dI
  simp
theorem fBits_I (u : UInt32) : fBits (fI u) = u := by
  unfold fBits fI
  simp
theorem dI_ok (u : UInt64) : 0 ≤ dI u ∧ dI u < 18446744073709551616 := by
  unfold dI
  have := u.toNat_lt
  omega
theorem fI_ok (u : UInt32) : 0 ≤ fI u ∧ fI u < 4294967296 := by
  unfold fI
  have := u.toNat_lt
  omega
def dDiv (a b : Int) : Int := dI (FP.ddiv (dBits a) (dBits b))
def fDiv (a b : Int) : Int := fI (FP.fdiv (fBits a) (fBits b))
def dOf (a : Int) : Int := dI (FP.i2d (Int32.ofInt a))
def fOf (a : Int) : Int := fI (FP.i2f (Int32.ofInt a))
def dOfF (a : Int) : Int := dI (FP.f2d (fBits a))
def dCmp (op : CmpOp) (a b : Int) : Int := (Op.cmpValue (FP.dcmp (dBits a) (dBits b)) op).toInt
def fCmp (op : CmpOp) (a b : Int) : Int := (Op.cmpValue (FP.fcmp (fBits a) (fBits b)) op).toInt
