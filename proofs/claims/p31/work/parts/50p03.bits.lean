/-! bits of whole numbers that aren't negative -/
theorem bv_of (n : Nat) : (Int32.ofInt (n : Int)).toBitVec = BitVec.ofNat 32 n := rfl
theorem bv_nat {n : Nat} (h : n < 2147483648) : (BitVec.ofNat 32 n).toNat = n := by
  rw [BitVec.toNat_ofNat, Nat.mod_eq_of_lt (by omega)]
theorem bv_int {x : BitVec 32} {n : Nat} (h : x.toNat = n) (hn : n < 2147483648) : x.toInt = (n : Int) := by
  rw [BitVec.toInt_eq_toNat_of_lt (by omega), h]
theorem bAnd_nat {m n : Nat} (hm : m < 2147483648) (hn : n < 2147483648) : bAnd m n = ((m &&& n : Nat) : Int) := by
  have h1 : m &&& n ≤ m := Nat.and_le_left
  show ((Int32.ofInt (m : Int)).toBitVec &&& (Int32.ofInt (n : Int)).toBitVec).toInt = _
  rw [bv_of, bv_of]
  exact bv_int (by rw [BitVec.toNat_and, bv_nat hm, bv_nat hn]) (by omega)
theorem bOr_nat {m n k : Nat} (hk : k ≤ 31) (hm : m < 2 ^ k) (hn : n < 2 ^ k) : bOr m n = ((m ||| n : Nat) : Int) := by
  have h1 : m ||| n < 2 ^ k := Nat.or_lt_two_pow hm hn
  have h2 : (2 : Nat) ^ k ≤ 2 ^ 31 := Nat.pow_le_pow_right (by decide) hk
  have h3 : (2 : Nat) ^ 31 = 2147483648 := by decide
  show ((Int32.ofInt (m : Int)).toBitVec ||| (Int32.ofInt (n : Int)).toBitVec).toInt = _
  rw [bv_of, bv_of]
  exact bv_int (by rw [BitVec.toNat_or, bv_nat (by omega), bv_nat (by omega)]) (by omega)
theorem sh_amt : ∀ k : Fin 31, ((Int32.ofInt ((k.val : Nat) : Int) &&& 31).toBitVec.smod 32).toNat = k.val := by decide
theorem bShr_nat {m : Nat} (hm : m < 2147483648) {k : Nat} (hk : k < 31) : bShr m k = ((m / 2 ^ k : Nat) : Int) := by
  show (BitVec.sshiftRight' (Int32.ofInt (m : Int)).toBitVec ((Int32.ofInt (k : Int) &&& 31).toBitVec.smod 32)).toInt = _
  rw [BitVec.toInt_sshiftRight', bv_of, bv_int (bv_nat hm) hm, sh_amt ⟨k, hk⟩, Int.shiftRight_eq_div_pow]
  norm_cast
theorem bShl_1 : ∀ k : Fin 31, bShl 1 ((k.val : Nat) : Int) = ((2 ^ k.val : Nat) : Int) := by decide +kernel
theorem us_amt : ∀ k : Fin 31, (((Int32.ofInt ((k.val : Nat) : Int)).toUInt32 &&& Int32.toUInt32 31).toNat % 32) = k.val := by decide
theorem bUsh_nat {m : Nat} (hm : m < 2147483648) {k : Nat} (hk : k < 31) : bUsh m k = ((m / 2 ^ k : Nat) : Int) := by
  have h1 : m / 2 ^ k ≤ m := Nat.div_le_self _ _
  show ((((Int32.ofInt (m : Int)).toUInt32 >>> ((Int32.ofInt (k : Int)).toUInt32 &&& Int32.toUInt32 31)).toBitVec)).toInt = _
  refine bv_int ?_ (by omega)
  show ((Int32.ofInt (m : Int)).toUInt32 >>> ((Int32.ofInt (k : Int)).toUInt32 &&& Int32.toUInt32 31)).toNat = _
  rw [UInt32.toNat_shiftRight, us_amt ⟨k, hk⟩, Nat.shiftRight_eq_div_pow]
  show (Int32.ofInt (m : Int)).toBitVec.toNat / _ = _
  rw [bv_of, bv_nat hm]
theorem bt_nat {m : Nat} (hm : m < 2147483648) {k : Nat} (hk : k < 31) : bt m k = ((m / 2 ^ k % 2 : Nat) : Int) := by
  have h1 : m / 2 ^ k ≤ m := Nat.div_le_self _ _
  unfold bt
  rw [bShr_nat hm hk, show (1 : Int) = ((1 : Nat) : Int) from rfl, bAnd_nat (by omega) (by omega), Nat.and_one_is_mod]
/-- a bit, as core says it -/
theorem bt_tb {v i : Int} (h0 : 0 ≤ v) (h1 : v < 2147483648) (h2 : 0 ≤ i) (h3 : i < 31) : bt v i = if v.toNat.testBit i.toNat = true then 1 else 0 := by
  have h := bt_nat (m := v.toNat) (by omega) (k := i.toNat) (by omega)
  rw [Int.toNat_of_nonneg h0, Int.toNat_of_nonneg h2] at h
  rw [h, Nat.testBit_eq_decide_div_mod_eq]
  have := Nat.mod_lt (v.toNat / 2 ^ i.toNat) (show 0 < 2 by decide)
  by_cases e : v.toNat / 2 ^ i.toNat % 2 = 1
  · simp [e]
  · have e0 : v.toNat / 2 ^ i.toNat % 2 = 0 := by omega
    simp [e0]
theorem bt_01 {v i : Int} (h0 : 0 ≤ v) (h1 : v < 2147483648) (h2 : 0 ≤ i) (h3 : i < 31) : bt v i = 0 ∨ bt v i = 1 := by
  rw [bt_tb h0 h1 h2 h3]
  split
  · exact Or.inr rfl
  · exact Or.inl rfl
theorem bOr_bt {v p : Int} {k : Nat} (hk : k ≤ 31) (h0 : 0 ≤ v) (h1 : v < ((2 ^ k : Nat) : Int)) (h2 : 0 ≤ p) (h3 : p < k) : (0 ≤ bOr v (bShl 1 p) ∧ bOr v (bShl 1 p) < ((2 ^ k : Nat) : Int)) ∧ ∀ i, 0 ≤ i → i < 31 → bt (bOr v (bShl 1 p)) i = if i = p then 1 else bt v i := by
  have e1 : (2 : Nat) ^ k ≤ 2 ^ 31 := Nat.pow_le_pow_right (by decide) hk
  have e3 : (2 : Nat) ^ 31 = 2147483648 := by decide
  have hp : bShl 1 p = ((2 ^ p.toNat : Nat) : Int) := by
    have := bShl_1 ⟨p.toNat, by omega⟩
    rw [Int.toNat_of_nonneg h2] at this
    exact this
  have hp2 : 2 ^ p.toNat < 2 ^ k := Nat.pow_lt_pow_right (by decide) (by omega)
  have hor : bOr v (bShl 1 p) = ((v.toNat ||| 2 ^ p.toNat : Nat) : Int) := by
    rw [hp]
    have h := bOr_nat hk (m := v.toNat) (n := 2 ^ p.toNat) (by omega) hp2
    rw [Int.toNat_of_nonneg h0] at h
    exact h
  have hlt : v.toNat ||| 2 ^ p.toNat < 2 ^ k := Nat.or_lt_two_pow (by omega) hp2
  rw [hor]
  refine ⟨⟨by omega, by omega⟩, fun i i0 i1 => ?_⟩
  rw [bt_tb (by omega) (by omega) i0 i1, bt_tb h0 (by omega) i0 i1, Int.toNat_natCast, Nat.testBit_or, Nat.testBit_two_pow]
  by_cases e : i = p
  · rw [if_pos e, if_pos (by simp [e])]
  · rw [if_neg e]
    have e2 : ¬ p.toNat = i.toNat := by omega
    simp [e2]
/-- the or of two sets of 16 -/
theorem bOr_bt2 {v z : Int} (h0 : 0 ≤ v) (h1 : v < 65536) (h2 : 0 ≤ z) (h3 : z < 65536) : (0 ≤ bOr v z ∧ bOr v z < 65536) ∧ ∀ i, 0 ≤ i → i < 31 → bt (bOr v z) i = if bt z i = 1 then 1 else bt v i := by
  have h := bOr_nat (k := 16) (by decide) (m := v.toNat) (n := z.toNat) (by omega) (by omega)
  rw [Int.toNat_of_nonneg h0, Int.toNat_of_nonneg h2] at h
  have hlt : v.toNat ||| z.toNat < 2 ^ 16 := Nat.or_lt_two_pow (by omega) (by omega)
  rw [h]
  refine ⟨⟨by omega, by omega⟩, fun i i0 i1 => ?_⟩
  rw [bt_tb (by omega) (by omega) i0 i1, bt_tb h0 (by omega) i0 i1, bt_tb h2 (by omega) i0 i1, Int.toNat_natCast, Nat.testBit_or]
  cases v.toNat.testBit i.toNat <;> cases z.toNat.testBit i.toNat <;> simp
theorem bt_zero {i : Int} (h2 : 0 ≤ i) (h3 : i < 31) : bt 0 i = 0 := by
  rw [bt_tb (by omega) (by omega) h2 h3]
  simp
theorem bt_high {v i : Int} {k : Nat} (hk : k ≤ 31) (h0 : 0 ≤ v) (h1 : v < ((2 ^ k : Nat) : Int)) (h2 : (k : Int) ≤ i) (h3 : i < 31) : bt v i = 0 := by
  have e1 : (2 : Nat) ^ k ≤ 2 ^ 31 := Nat.pow_le_pow_right (by decide) hk
  have e3 : (2 : Nat) ^ 31 = 2147483648 := by decide
  rw [bt_tb h0 (by omega) (by omega) h3, Nat.testBit_lt_two_pow (by
    have : (2 : Nat) ^ k ≤ 2 ^ i.toNat := Nat.pow_le_pow_right (by decide) (by omega)
    omega)]
  simp
/-- two sets of 16 with the same bits are one -/
theorem bt_ext {v z : Int} (h0 : 0 ≤ v) (h1 : v < 65536) (h2 : 0 ≤ z) (h3 : z < 65536) (h : ∀ i, 0 ≤ i → i < 16 → bt v i = bt z i) : v = z := by
  have e : v.toNat = z.toNat := by
    refine Nat.eq_of_testBit_eq fun j => ?_
    by_cases hj : j < 16
    · have h4 := h j (by omega) (by omega)
      rw [bt_tb h0 (by omega) (by omega) (by omega), bt_tb h2 (by omega) (by omega) (by omega), Int.toNat_natCast] at h4
      revert h4
      cases v.toNat.testBit j <;> cases z.toNat.testBit j <;> simp
    · rw [Nat.testBit_lt_two_pow (show v.toNat < 2 ^ j by
          have : (2 : Nat) ^ 16 ≤ 2 ^ j := Nat.pow_le_pow_right (by decide) (by omega)
          omega), Nat.testBit_lt_two_pow (show z.toNat < 2 ^ j by
          have : (2 : Nat) ^ 16 ≤ 2 ^ j := Nat.pow_le_pow_right (by decide) (by omega)
          omega)]
  omega
/-- the bit of one plate goes -/
theorem bOff_all : ∀ t : Fin 16, ∀ p : Fin 4, (0 ≤ bAnd ((t.val : Nat) : Int) (bXor (bShl 1 ((p.val : Nat) : Int)) (-1)) ∧ bAnd ((t.val : Nat) : Int) (bXor (bShl 1 ((p.val : Nat) : Int)) (-1)) < 16) ∧ ∀ i : Fin 4, bt (bAnd ((t.val : Nat) : Int) (bXor (bShl 1 ((p.val : Nat) : Int)) (-1))) ((i.val : Nat) : Int) = if i = p then 0 else bt ((t.val : Nat) : Int) ((i.val : Nat) : Int) := by decide +kernel
theorem bOff {v p : Int} (h0 : 0 ≤ v) (h1 : v < 16) (h2 : 0 ≤ p) (h3 : p < 4) : (0 ≤ bAnd v (bXor (bShl 1 p) (-1)) ∧ bAnd v (bXor (bShl 1 p) (-1)) < 16) ∧ ∀ i, 0 ≤ i → i < 4 → bt (bAnd v (bXor (bShl 1 p) (-1))) i = if i = p then 0 else bt v i := by
  have h := bOff_all ⟨v.toNat, by omega⟩ ⟨p.toNat, by omega⟩
  simp only [Int.toNat_of_nonneg h0, Int.toNat_of_nonneg h2] at h
  refine ⟨h.1, fun i i0 i1 => ?_⟩
  have h4 := h.2 ⟨i.toNat, by omega⟩
  simp only [Int.toNat_of_nonneg i0, Fin.mk.injEq] at h4
  rw [h4]
  by_cases e : i = p
  · rw [if_pos e, if_pos (by omega)]
  · rw [if_neg e, if_neg (by omega)]
/-! the numbers of bits -/
theorem su_first (f : Int → Int) : ∀ n : Nat, su f ((n : Int) + 1) = f 0 + su (fun i => f (i + 1)) n
  | 0 => by
    rw [show ((0 : Nat) : Int) = 0 from rfl, su_s f (by omega), su_0, su_0]
    omega
  | n + 1 => by
    rw [su_s f (by omega), show ((n + 1 : Nat) : Int) = (n : Int) + 1 by omega, su_first f n, su_s _ (by omega)]
    omega
def bcJ1 (x0 : Int) : Int := w32 (x0 - (bAnd (bUsh x0 1) 1431655765))
def bcJ2 (x : Int) : Int := w32 ((bAnd x 858993459) + (bAnd (bUsh x 2) 858993459))
def bcJ3 (x : Int) : Int := bAnd (w32 (x + (bUsh x 4))) 252645135
def bcJ4 (x : Int) : Int := w32 (x + (bUsh x 8))
def bcJ5 (x : Int) : Int := bAnd (w32 (x + (bUsh x 16))) 63
theorem bcJ_eq (x : Int) (μ : Mem) : FJ6_bitCount_0f7a4 x μ = RT (bcJ5 (bcJ4 (bcJ3 (bcJ2 (bcJ1 x))))) μ := rfl
theorem bcJ_all : ∀ t : Fin 16, bcJ5 (bcJ4 (bcJ3 (bcJ2 (bcJ1 ((t.val : Nat) : Int))))) = bc ((t.val : Nat) : Int) := by decide +kernel
theorem bitCount_rt {v : Int} {μ : Mem} (h0 : 0 ≤ v) (h1 : v < 16) : FJ6_bitCount_0f7a4 v μ = RT (bc v) μ := by
  have h := bcJ_all ⟨v.toNat, by omega⟩
  simp only [Int.toNat_of_nonneg h0] at h
  rw [bcJ_eq, h]
theorem bitCount_rt_c {v : Int} {μ : Mem} (h0 : 0 ≤ v) (h1 : v < 16) {K : Int → Mem → Rz} {X : Int → Int → Mem → Rz} : CLX (FJ6_bitCount_0f7a4 v μ) K X = K (bc v) μ := by
  rw [bitCount_rt h0 h1]
  rfl
theorem bc_le {v : Int} (h0 : 0 ≤ v) (h1 : v < 65536) : 0 ≤ bc v ∧ bc v ≤ 16 := by
  have h := su_le (f := fun i => bt v i) (n := 16) (B := 1) (by omega) fun i i0 i1 => by
    have := bt_01 h0 (by omega) i0 (by omega)
    omega
  exact h
theorem bc_4 {v : Int} (h0 : 0 ≤ v) (h1 : v < 16) : bc v = su (fun i => bt v i) 4 := by
  unfold bc
  have h := su_split (fun i => bt v i) (show (0 : Int) ≤ 4 by omega) 12
  rw [show (4 : Int) + ((12 : Nat) : Int) = 16 from rfl] at h
  rw [h, su_ext (g := fun _ => 0) (f := fun i => bt v (4 + i)) fun i i0 i1 => bt_high (k := 4) (by decide) h0 (by omega) (by omega) (by omega)]
  have h0 : su (fun _ => 0) ((12 : Nat) : Int) = 0 := sm_zero _
  rw [h0, Int.add_zero]
/-- the set of a cell's dots stays a set of four -/
theorem ik_16 (r : Row) (x y : Int) : ∀ p : Nat, p ≤ 4 → 0 ≤ ik r x y p ∧ ik r x y p < 16
  | 0, _ => by
    show (0 : Int) ≤ 0 ∧ (0 : Int) < 16
    omega
  | p + 1, h => by
    have h1 := ik_16 r x y p (by omega)
    rw [ik]
    split
    · have h2 := bOr_bt (k := 4) (by decide) h1.1 (by omega) (show (0 : Int) ≤ p by omega) (by omega)
      exact ⟨h2.1.1, by have := h2.1.2; omega⟩
    · exact h1

