/-! the text of every method over the small memory, and the words it is made of (moved here from the walks' parts) -/
/-- the letters of the words, by their numbers -/
def wBytes (i : Nat) : List Int := match i with
  | 0 => [112, 105, 99, 116, 117, 114, 101]
  | 1 => [116, 111, 110, 101, 115]
  | 2 => [112, 108, 97, 116, 101]
  | 3 => [105, 110, 107]
  | 4 => [108, 105, 109, 105, 116]
  | 5 => [99, 117, 114, 118, 101]
  | 6 => [116, 111, 110, 101]
  | 7 => [120]
  | 8 => [121]
  | 9 => [114, 111, 117, 110, 100]
  | 10 => [108, 105, 110, 101]
  | 11 => [100, 105, 97, 109, 111, 110, 100]
  | _ => [115, 113, 117, 97, 114, 101]
def mCpy (μ : Mem) (src sp dst dp n : Int) : Mem := fun a k => if a = dst ∧ dp ≤ k ∧ k < dp + n then μ src (sp + (k - dp)) else μ a k
def ACP (src sp dst dp n : Int) (μ : Mem) (K : Mem → Rz) : Rz := if 0 < dst ∧ src ≠ dst ∧ μ src (-1) = 21 ∧ μ dst (-1) = 21 ∧ 0 ≤ sp ∧ 0 ≤ dp ∧ 0 ≤ n ∧ sp + n ≤ μ src (-2) ∧ dp + n ≤ μ dst (-2) then K (mCpy μ src sp dst dp n) else none
/-- new int[4][192] -/
def mMul (μ : Mem) : Mem := fun a k => if a = μ 0 0 then (if k = -1 then 27 else if k = -2 then 4 else if 0 ≤ k ∧ k < 4 then μ 0 0 + 1 + k else 0) else if μ 0 0 < a ∧ a ≤ μ 0 0 + 4 then (if k = -1 then 21 else if k = -2 then 192 else 0) else if a = 0 ∧ k = 0 then μ 0 0 + 5 else if a = 0 ∧ k = 1 then μ 0 1 + 5 else if a = 0 ∧ k = 2 then μ 0 2 + 772 else μ a k
def NM (n k : Int) (μ : Mem) (K : Int → Mem → Rz) : Rz := if 0 < μ 0 0 ∧ n = 4 ∧ k = 192 then K (μ 0 0) (mMul μ) else none
def RTZ (v : Int) (μ : Mem) : Rz := if v = 0 ∨ v = 1 then some (0, v, μ) else none
def RTC (v : Int) (μ : Mem) : Rz := if 0 ≤ v ∧ v < 65536 then some (0, v, μ) else none
def RTB (v : Int) (μ : Mem) : Rz := if -128 ≤ v ∧ v < 128 then some (0, v, μ) else none
def LT (z : Int) (K : Int → Rz) : Rz := K z
/-- more rounds than any loop takes -/
def FU : Nat := 20000
def strLen (i : Int) : Int := ((wBytes i.toNat).length : Int)
def strCh (i j : Int) : Int := (wBytes i.toNat).getD j.toNat 0
def STL (i : Int) (K : Int → Rz) : Rz := if 0 ≤ i ∧ i < 13 then K (strLen i) else none
def STC (i j : Int) (K : Int → Rz) : Rz := if (0 ≤ i ∧ i < 13) ∧ 0 ≤ j ∧ j < strLen i then K (strCh i j) else none
def dMx (a b : Int) : Int := dI (Native.java_lang_Math.nans.pick64 true (dBits a) (dBits b))
def DMX (a b : Int) (K : Int → Rz) : Rz := if FP.dIsNaN (dBits a) = false ∧ FP.dIsNaN (dBits b) = false then K (dMx a b) else none
def SC1 (sc : Int → Int) (L i : Int) (K : Int → Rz) : Rz := if 0 ≤ i ∧ i < L then K (sc i) else none
def RTL (v : Int) (μ : Mem) : Rz := if v = 1 then some (0, v, μ) else none
def BJ7_fill_53178_5 (k5 : Int → Int → Int → Int → Mem → Rz) (x0 x1 x2 x3 : Int) (μ : Mem) : Rz := if x3 ≤ x2 then (RT 0 μ) else (AS 1 x0 x2 x1 μ fun u101 => k5 x0 x1 (w32 (x2 + 1)) x3 u101)
def LJ7_fill_53178_5 : Nat → Int → Int → Int → Int → Mem → Rz
  | 0, _, _, _, _, _ => none
  | n + 1, x0, x1, x2, x3, μ => BJ7_fill_53178_5 (fun y0 y1 y2 y3 ν => LJ7_fill_53178_5 n y0 y1 y2 y3 ν) x0 x1 x2 x3 μ
def BJ7_fill_53178_0 (x0 x1 : Int) (μ : Mem) : Rz := LN 1 x0 μ fun t101 => LJ7_fill_53178_5 FU x0 x1 0 t101 μ
def FJ7_fill_53178 (a0 a1 : Int) (μ : Mem) : Rz := BJ7_fill_53178_0 a0 a1 μ
def BJ6_bitCount_0f7a4_0 (x0 : Int) (μ : Mem) : Rz := LT (w32 (x0 - (bAnd (bUsh x0 1) 1431655765))) fun x101 => LT (w32 ((bAnd x101 858993459) + (bAnd (bUsh x101 2) 858993459))) fun x102 => LT (bAnd (w32 (x102 + (bUsh x102 4))) 252645135) fun x103 => LT (w32 (x103 + (bUsh x103 8))) fun x104 => LT (w32 (x104 + (bUsh x104 16))) fun x105 => RT (bAnd x105 63) μ
def FJ6_bitCount_0f7a4 (a0 : Int) (μ : Mem) : Rz := BJ6_bitCount_0f7a4_0 a0 μ
def BJ9_abs_0f7a4_10 (s0 : Int) (μ : Mem) : Rz := RT s0 μ
def BJ9_abs_0f7a4_0 (x0 : Int) (μ : Mem) : Rz := if 0 ≤ x0 then (BJ9_abs_0f7a4_10 x0 μ) else (BJ9_abs_0f7a4_10 (w32 (-x0)) μ)
def FJ9_abs_0f7a4 (a0 : Int) (μ : Mem) : Rz := BJ9_abs_0f7a4_0 a0 μ
def BJ9_max_7cf53_10 (s0 : Int) (μ : Mem) : Rz := RT s0 μ
def BJ9_max_7cf53_0 (x0 x1 : Int) (μ : Mem) : Rz := if x0 < x1 then (BJ9_max_7cf53_10 x1 μ) else (BJ9_max_7cf53_10 x0 μ)
def FJ9_max_7cf53 (a0 a1 : Int) (μ : Mem) : Rz := BJ9_max_7cf53_0 a0 a1 μ
def BJ9_floorMod_7cf53_18 (x2 : Int) (μ : Mem) : Rz := RT x2 μ
def BJ9_floorMod_7cf53_0 (x0 x1 : Int) (μ : Mem) : Rz := RM x0 x1 fun t101 => if 0 ≤ bXor x0 x1 then (BJ9_floorMod_7cf53_18 t101 μ) else (if t101 = 0 then (BJ9_floorMod_7cf53_18 t101 μ) else (RT (w32 (t101 + x1)) μ))
def FJ9_floorMod_7cf53 (a0 a1 : Int) (μ : Mem) : Rz := BJ9_floorMod_7cf53_0 a0 a1 μ
def BJ9_max_f86c9_11 (s0 : Int) (μ : Mem) : Rz := RT s0 μ
def BJ9_max_f86c9_0 (x0 x2 : Int) (μ : Mem) : Rz := if cLong x0 x2 < 0 then (BJ9_max_f86c9_11 x2 μ) else (BJ9_max_f86c9_11 x0 μ)
def FJ9_max_f86c9 (a0 a2 : Int) (μ : Mem) : Rz := BJ9_max_f86c9_0 a0 a2 μ
def BJ9_min_f86c9_11 (s0 : Int) (μ : Mem) : Rz := RT s0 μ
def BJ9_min_f86c9_0 (x0 x2 : Int) (μ : Mem) : Rz := if 0 < cLong x0 x2 then (BJ9_min_f86c9_11 x2 μ) else (BJ9_min_f86c9_11 x0 μ)
def FJ9_min_f86c9 (a0 a2 : Int) (μ : Mem) : Rz := BJ9_min_f86c9_0 a0 a2 μ
def BJ9_min_7cf53_10 (s0 : Int) (μ : Mem) : Rz := RT s0 μ
def BJ9_min_7cf53_0 (x0 x1 : Int) (μ : Mem) : Rz := if x1 < x0 then (BJ9_min_7cf53_10 x1 μ) else (BJ9_min_7cf53_10 x0 μ)
def FJ9_min_7cf53 (a0 a1 : Int) (μ : Mem) : Rz := BJ9_min_7cf53_0 a0 a1 μ
def BJ7_copyOf_59c91_0 (x0 x1 : Int) (μ : Mem) : Rz := LN 1 x0 μ fun t101 => if ¬ x1 = t101 then (NA 1 x1 μ fun t102 u103 => LN 1 x0 u103 fun t104 => CL (FJ9_min_7cf53 t104 x1 u103) fun t105 u106 => ACP x0 0 t102 0 t105 u106 fun u107 => RT t102 u107) else none
def FJ7_copyOf_59c91 (a0 a1 : Int) (μ : Mem) : Rz := BJ7_copyOf_59c91_0 a0 a1 μ
def BX1_p_0 (x0 : Int) (μ : Mem) : Rz := GF 1 1 x0 μ fun t101 => GF 1 1 x0 μ fun t102 => GF 1 2 x0 μ fun t103 => GF 1 2 x0 μ fun t104 => RT (w32 ((w32 (t101 * t102)) + (w32 (t103 * t104)))) μ
def FX1_p (a0 : Int) (μ : Mem) : Rz := BX1_p_0 a0 μ
def BX6_moireWith_76 (s0 : Int) (μ : Mem) : Rz := RT s0 μ
def BX6_moireWith_0 (x0 x1 x2 : Int) (μ : Mem) : Rz := LT (w32 ((w32 (x1 * x1)) + (w32 (x2 * x2)))) fun x101 => KD 1 x0 μ (CL (FX1_p x0 μ) fun t102 u103 => GF 1 1 x0 u103 fun t104 => LT (w32 ((w32 (x1 * t102)) - (w32 (t104 * x101)))) fun x105 => GF 1 2 x0 u103 fun t106 => LT (w32 ((w32 (x2 * t102)) - (w32 (t106 * x101)))) fun x107 => LT (w32 ((w32 (x105 * x105)) + (w32 (x107 * x107)))) fun x108 => if ¬ x108 = 0 then (DD (dOf (w32 ((w32 ((w32 (x101 * x101)) * t102)) * t102))) (dOf x108) fun t109 => BX6_moireWith_76 t109 u103) else (BX6_moireWith_76 0 u103))
def FX6_moireWith (a0 a1 a2 : Int) (μ : Mem) : Rz := BX6_moireWith_0 a0 a1 a2 μ
def BX6_greatestMoire_58 (k6 : Int → Int → Int → Int → Int → Int → Mem → Rz) (x0 x1 x2 x3 x4 x6 : Int) (μ : Mem) : Rz := k6 x0 x1 x2 x3 x4 (w32 (x6 + 1)) μ
def BX6_greatestMoire_56 (k6 : Int → Int → Int → Int → Int → Int → Mem → Rz) (x0 x1 x2 x3 x6 s0 : Int) (μ : Mem) : Rz := BX6_greatestMoire_58 k6 x0 x1 x2 x3 s0 x6 μ
def BX6_greatestMoire_6 (k6 : Int → Int → Int → Int → Int → Int → Mem → Rz) (x0 x1 x2 x3 x4 x6 : Int) (μ : Mem) : Rz := GF 6 6 x0 μ fun t101 => GF 5 3 t101 μ fun t102 => if t102 ≤ x6 then (RT x4 μ) else (if x6 = x1 then (BX6_greatestMoire_58 k6 x0 x1 x2 x3 x4 x6 μ) else (GF 6 6 x0 μ fun t103 => GF 5 4 t103 μ fun t104 => AL 5 t104 x6 μ fun t105 => CL (FX6_moireWith t105 x2 x3 μ) fun t106 u107 => if dCmp .l t106 x4 ≤ 0 then (BX6_greatestMoire_56 k6 x0 x1 x2 x3 x6 x4 u107) else (BX6_greatestMoire_56 k6 x0 x1 x2 x3 x6 t106 u107)))
def LX6_greatestMoire_6 : Nat → Int → Int → Int → Int → Int → Int → Mem → Rz
  | 0, _, _, _, _, _, _, _ => none
  | n + 1, x0, x1, x2, x3, x4, x6, μ => BX6_greatestMoire_6 (fun y0 y1 y2 y3 y4 y6 ν => LX6_greatestMoire_6 n y0 y1 y2 y3 y4 y6 ν) x0 x1 x2 x3 x4 x6 μ
def BX6_greatestMoire_0 (x0 x1 x2 x3 : Int) (μ : Mem) : Rz := LX6_greatestMoire_6 FU x0 x1 x2 x3 0 0 μ
def FX6_greatestMoire (a0 a1 a2 a3 : Int) (μ : Mem) : Rz := BX6_greatestMoire_0 a0 a1 a2 a3 μ
def BX6_requirePlate_15 (μ : Mem) : Rz := TH 1 μ
def BX6_requirePlate_0 (x0 x1 : Int) (μ : Mem) : Rz := if x1 < 0 then (BX6_requirePlate_15 μ) else (GF 6 6 x0 μ fun t101 => GF 5 3 t101 μ fun t102 => if x1 < t102 then (RT 0 μ) else (BX6_requirePlate_15 μ))
def FX6_requirePlate (a0 a1 : Int) (μ : Mem) : Rz := BX6_requirePlate_0 a0 a1 μ
def BX6_bestTurn_110 (k52 : Int → Int → Int → Int → Int → Mem → Rz) (k70 : Int → Int → Int → Int → Int → Int → Mem → Rz) (x0 x1 x2 x3 x5 x6 : Int) (μ : Mem) : Rz := k70 x0 x1 x2 x3 x5 (w32 (x6 + 1)) μ
def BX6_bestTurn_98 (k52 : Int → Int → Int → Int → Int → Mem → Rz) (k70 : Int → Int → Int → Int → Int → Int → Mem → Rz) (x0 x1 x5 x6 x7 : Int) (μ : Mem) : Rz := LT (w32 ((w32 (10 * x5)) + x6)) fun x101 => BX6_bestTurn_110 k52 k70 x0 x1 x101 x7 x5 x6 μ
def BX6_bestTurn_70 (k52 : Int → Int → Int → Int → Int → Mem → Rz) (k70 : Int → Int → Int → Int → Int → Int → Mem → Rz) (x0 x1 x2 x3 x5 x6 : Int) (μ : Mem) : Rz := if 3 < x6 then (k52 x0 x1 x2 x3 (w32 (x5 + 1)) μ) else (KD 6 x0 μ (CL (FX6_greatestMoire x0 x1 x5 x6 μ) fun t101 u102 => if x2 < 0 then (BX6_bestTurn_98 k52 k70 x0 x1 x5 x6 t101 u102) else (if 0 ≤ dCmp .g t101 x3 then (BX6_bestTurn_110 k52 k70 x0 x1 x2 x3 x5 x6 u102) else (BX6_bestTurn_98 k52 k70 x0 x1 x5 x6 t101 u102))))
def LX6_bestTurn_70 (k52 : Int → Int → Int → Int → Int → Mem → Rz) : Nat → Int → Int → Int → Int → Int → Int → Mem → Rz
  | 0, _, _, _, _, _, _, _ => none
  | n + 1, x0, x1, x2, x3, x5, x6, μ => BX6_bestTurn_70 k52 (fun y0 y1 y2 y3 y5 y6 ν => LX6_bestTurn_70 k52 n y0 y1 y2 y3 y5 y6 ν) x0 x1 x2 x3 x5 x6 μ
def BX6_bestTurn_68 (k52 : Int → Int → Int → Int → Int → Mem → Rz) (x0 x1 x2 x3 x5 s0 : Int) (μ : Mem) : Rz := LX6_bestTurn_70 k52 FU x0 x1 x2 x3 x5 s0 μ
def BX6_bestTurn_52 (k52 : Int → Int → Int → Int → Int → Mem → Rz) (x0 x1 x2 x3 x5 : Int) (μ : Mem) : Rz := if 3 < x5 then (RT x2 μ) else (if ¬ x5 = 0 then (BX6_bestTurn_68 k52 x0 x1 x2 x3 x5 0 μ) else (BX6_bestTurn_68 k52 x0 x1 x2 x3 x5 1 μ))
def LX6_bestTurn_52 : Nat → Int → Int → Int → Int → Int → Mem → Rz
  | 0, _, _, _, _, _, _ => none
  | n + 1, x0, x1, x2, x3, x5, μ => BX6_bestTurn_52 (fun y0 y1 y2 y3 y5 ν => LX6_bestTurn_52 n y0 y1 y2 y3 y5 ν) x0 x1 x2 x3 x5 μ
def BX6_bestTurn_0 (x0 x1 : Int) (μ : Mem) : Rz := KD 6 x0 μ (CL (FX6_requirePlate x0 x1 μ) fun _ u102 => GF 6 6 x0 u102 fun t103 => GF 5 3 t103 u102 fun t104 => if 2 ≤ t104 then (LX6_bestTurn_52 FU x0 x1 (-1) 0 0 u102) else (GF 6 6 x0 u102 fun t105 => GF 5 4 t105 u102 fun t106 => AL 5 t106 x1 u102 fun t107 => GF 1 1 t107 u102 fun t108 => GF 6 6 x0 u102 fun t109 => GF 5 4 t109 u102 fun t110 => AL 5 t110 x1 u102 fun t111 => GF 1 2 t111 u102 fun t112 => RT (w32 ((w32 (10 * t108)) + t112)) u102))
def FX6_bestTurn (a0 a1 : Int) (μ : Mem) : Rz := BX6_bestTurn_0 a0 a1 μ
def BX2_hasDot_19 (s0 : Int) (μ : Mem) : Rz := RTZ s0 μ
def BX2_hasDot_0 (x0 x1 x2 : Int) (μ : Mem) : Rz := GF 2 1 x0 μ fun t101 => AL 1 t101 x2 μ fun t102 => if ¬ bAnd (bShr t102 x1) 1 = 1 then (BX2_hasDot_19 0 μ) else (BX2_hasDot_19 1 μ)
def FX2_hasDot (a0 a1 a2 : Int) (μ : Mem) : Rz := BX2_hasDot_0 a0 a1 a2 μ
def BX5_indexOfCell_0 (x0 x1 x2 : Int) (μ : Mem) : Rz := GF 5 0 x0 μ fun t101 => RT (w32 ((w32 (x2 * t101)) + x1)) μ
def FX5_indexOfCell (a0 a1 a2 : Int) (μ : Mem) : Rz := BX5_indexOfCell_0 a0 a1 a2 μ
def BX2_isDotAt_46 (s0 : Int) (μ : Mem) : Rz := RTZ s0 μ
def BX2_isDotAt_45 (μ : Mem) : Rz := BX2_isDotAt_46 0 μ
def BX2_isDotAt_0 (x0 x1 x2 x3 x4 : Int) (μ : Mem) : Rz := if x3 < 0 then (BX2_isDotAt_45 μ) else (GF 5 0 x1 μ fun t101 => if t101 ≤ x3 then (BX2_isDotAt_45 μ) else (if x4 < 0 then (BX2_isDotAt_45 μ) else (GF 5 1 x1 μ fun t102 => if t102 ≤ x4 then (BX2_isDotAt_45 μ) else (KD 5 x1 μ (CL (FX5_indexOfCell x1 x3 x4 μ) fun t103 u104 => KD 2 x0 u104 (CL (FX2_hasDot x0 x2 t103 u104) fun t105 u106 => if t105 = 0 then (BX2_isDotAt_45 u106) else (BX2_isDotAt_46 1 u106)))))))
def FX2_isDotAt (a0 a1 a2 a3 a4 : Int) (μ : Mem) : Rz := BX2_isDotAt_0 a0 a1 a2 a3 a4 μ
def BX2_isSpot_73 (s0 : Int) (μ : Mem) : Rz := RTZ s0 μ
def BX2_isSpot_72 (μ : Mem) : Rz := BX2_isSpot_73 0 μ
def BX2_isSpot_0 (x0 x1 x2 x3 x4 : Int) (μ : Mem) : Rz := KD 2 x0 μ (CL (FX2_isDotAt x0 x1 x2 x3 x4 μ) fun t101 u102 => if t101 = 0 then (BX2_isSpot_72 u102) else (KD 2 x0 u102 (CL (FX2_isDotAt x0 x1 x2 x3 (w32 (x4 - 1)) u102) fun t103 u104 => if ¬ t103 = 0 then (BX2_isSpot_72 u104) else (KD 2 x0 u104 (CL (FX2_isDotAt x0 x1 x2 x3 (w32 (x4 + 1)) u104) fun t105 u106 => if ¬ t105 = 0 then (BX2_isSpot_72 u106) else (KD 2 x0 u106 (CL (FX2_isDotAt x0 x1 x2 (w32 (x3 - 1)) x4 u106) fun t107 u108 => if ¬ t107 = 0 then (BX2_isSpot_72 u108) else (KD 2 x0 u108 (CL (FX2_isDotAt x0 x1 x2 (w32 (x3 + 1)) x4 u108) fun t109 u110 => if ¬ t109 = 0 then (BX2_isSpot_72 u110) else (BX2_isSpot_73 1 u110))))))))))
def FX2_isSpot (a0 a1 a2 a3 a4 : Int) (μ : Mem) : Rz := BX2_isSpot_0 a0 a1 a2 a3 a4 μ
def BX3_rankOf_35 (s0 : Int) (μ : Mem) : Rz := RT s0 μ
def BX3_rankOf_0 (x0 x1 x2 : Int) (μ : Mem) : Rz := GF 3 2 x0 μ fun t101 => if 1 ≤ t101 then (GF 3 4 x0 μ fun t102 => GF 3 2 x0 μ fun t103 => RM x2 t103 fun t104 => GF 3 2 x0 μ fun t105 => GF 3 2 x0 μ fun t106 => RM x1 t106 fun t107 => AL 1 t102 (w32 ((w32 (t104 * t105)) + t107)) μ fun t108 => BX3_rankOf_35 t108 μ) else (BX3_rankOf_35 0 μ)
def FX3_rankOf (a0 a1 a2 : Int) (μ : Mem) : Rz := BX3_rankOf_0 a0 a1 a2 μ
def BX2_rankAt_0 (x0 x1 x2 x3 x4 : Int) (μ : Mem) : Rz := GF 2 3 x0 μ fun t101 => AL 6 t101 x2 μ fun t102 => GF 5 4 x1 μ fun t103 => AL 5 t103 x2 μ fun t104 => GF 1 4 t104 μ fun t105 => GF 5 4 x1 μ fun t106 => AL 5 t106 x2 μ fun t107 => GF 1 5 t107 μ fun t108 => KD 3 t102 μ (CL (FX3_rankOf t102 (w32 (x3 + t105)) (w32 (x4 + t108)) μ) fun t109 u110 => RT t109 u110)
def FX2_rankAt (a0 a1 a2 a3 a4 : Int) (μ : Mem) : Rz := BX2_rankAt_0 a0 a1 a2 a3 a4 μ
def BX2_isDark_51 (s0 : Int) (μ : Mem) : Rz := RTZ s0 μ
def BX2_isDark_0 (x0 x1 x2 x3 x4 : Int) (μ : Mem) : Rz := GF 5 4 x1 μ fun t101 => AL 5 t101 x2 μ fun t102 => KD 1 t102 μ (CL (FX1_p t102 μ) fun t103 u104 => KD 2 x0 u104 (CL (FX2_rankAt x0 x1 x2 x3 x4 u104) fun t105 u106 => GF 2 0 x0 u106 fun t107 => AL 7 t107 x2 u106 fun t108 => KD 5 x1 u106 (CL (FX5_indexOfCell x1 x3 x4 u106) fun t109 u110 => AL 1 t108 t109 u110 fun t111 => if w32 ((w32 (t111 * t103)) * t103) ≤ w32 (t105 * 100) then (BX2_isDark_51 0 u110) else (BX2_isDark_51 1 u110))))
def FX2_isDark (a0 a1 a2 a3 a4 : Int) (μ : Mem) : Rz := BX2_isDark_0 a0 a1 a2 a3 a4 μ
def BX6_remainder_14 (s0 : Int) (μ : Mem) : Rz := RT s0 μ
def BX6_remainder_0 (x0 x1 : Int) (μ : Mem) : Rz := if 1 ≤ x1 then (CL (FJ9_floorMod_7cf53 x0 x1 μ) fun t101 u102 => BX6_remainder_14 t101 u102) else (BX6_remainder_14 0 μ)
def FX6_remainder (a0 a1 : Int) (μ : Mem) : Rz := BX6_remainder_0 a0 a1 μ
def BX3_measureAt_0 (x0 x1 x2 : Int) (μ : Mem) : Rz := GF 3 0 x0 μ fun t101 => GF 3 1 x0 μ fun t102 => GF 3 2 x0 μ fun t103 => CL (FX6_remainder (w32 ((w32 (t101 * x1)) + (w32 (t102 * x2)))) t103 μ) fun t104 u105 => GF 3 2 x0 u105 fun t106 => LT (w32 ((w32 (2 * t104)) - t106)) fun x107 => GF 3 0 x0 u105 fun t108 => GF 3 1 x0 u105 fun t109 => GF 3 2 x0 u105 fun t110 => CL (FX6_remainder (w32 ((w32 (t108 * x2)) - (w32 (t109 * x1)))) t110 u105) fun t111 u112 => GF 3 2 x0 u112 fun t113 => LT (w32 ((w32 (2 * t111)) - t113)) fun x114 => GF 3 3 x0 u112 fun t115 => SW t115 0 [RT (w32 ((w32 (x107 * x107)) + (w32 (x114 * x114)))) u112, CL (FJ9_abs_0f7a4 x107 u112) fun t122 u123 => RT t122 u123, CL (FJ9_abs_0f7a4 x107 u112) fun t124 u125 => CL (FJ9_abs_0f7a4 x114 u125) fun t126 u127 => RT (w32 (t124 + t126)) u127] (CL (FJ9_abs_0f7a4 x107 u112) fun t116 u117 => CL (FJ9_abs_0f7a4 x114 u117) fun t118 u119 => CL (FJ9_max_7cf53 t116 t118 u119) fun t120 u121 => RT t120 u121)
def FX3_measureAt (a0 a1 a2 : Int) (μ : Mem) : Rz := BX3_measureAt_0 a0 a1 a2 μ
def BX3_fit_158 (k147 : Int → Int → Int → Mem → Rz) (k158 : Int → Int → Int → Int → Mem → Rz) (x0 x2 x3 x4 : Int) (μ : Mem) : Rz := GF 3 2 x0 μ fun t101 => if t101 ≤ x4 then (k147 x0 x2 (w32 (x3 + 1)) μ) else (KD 3 x0 μ (CL (FX3_measureAt x0 x4 x3 μ) fun t102 u103 => GF 3 4 x0 u103 fun t104 => GF 3 2 x0 u103 fun t105 => AL 1 x2 t102 u103 fun t106 => AS 1 t104 (w32 ((w32 (x3 * t105)) + x4)) t106 u103 fun u107 => AL 1 x2 t102 u107 fun t108 => AS 1 x2 t102 (w32 (t108 + 1)) u107 fun u109 => k158 x0 x2 x3 (w32 (x4 + 1)) u109))
def LX3_fit_158 (k147 : Int → Int → Int → Mem → Rz) : Nat → Int → Int → Int → Int → Mem → Rz
  | 0, _, _, _, _, _ => none
  | n + 1, x0, x2, x3, x4, μ => BX3_fit_158 k147 (fun y0 y2 y3 y4 ν => LX3_fit_158 k147 n y0 y2 y3 y4 ν) x0 x2 x3 x4 μ
def BX3_fit_147 (k147 : Int → Int → Int → Mem → Rz) (x0 x2 x3 : Int) (μ : Mem) : Rz := GF 3 2 x0 μ fun t101 => if t101 ≤ x3 then (RT 0 μ) else (LX3_fit_158 k147 FU x0 x2 x3 0 μ)
def LX3_fit_147 : Nat → Int → Int → Int → Mem → Rz
  | 0, _, _, _, _ => none
  | n + 1, x0, x2, x3, μ => BX3_fit_147 (fun y0 y2 y3 ν => LX3_fit_147 n y0 y2 y3 ν) x0 x2 x3 μ
def BX3_fit_122 (k122 : Int → Int → Int → Mem → Rz) (x0 x2 x3 : Int) (μ : Mem) : Rz := LN 1 x2 μ fun t101 => if t101 ≤ x3 then (LX3_fit_147 FU x0 x2 0 μ) else (AL 1 x2 x3 μ fun t102 => AL 1 x2 (w32 (x3 - 1)) μ fun t103 => AS 1 x2 x3 (w32 (t102 + t103)) μ fun u104 => k122 x0 x2 (w32 (x3 + 1)) u104)
def LX3_fit_122 : Nat → Int → Int → Int → Mem → Rz
  | 0, _, _, _, _ => none
  | n + 1, x0, x2, x3, μ => BX3_fit_122 (fun y0 y2 y3 ν => LX3_fit_122 n y0 y2 y3 ν) x0 x2 x3 μ
def BX3_fit_84 (k73 : Int → Int → Int → Mem → Rz) (k84 : Int → Int → Int → Int → Mem → Rz) (x0 x2 x3 x4 : Int) (μ : Mem) : Rz := GF 3 2 x0 μ fun t101 => if t101 ≤ x4 then (k73 x0 x2 (w32 (x3 + 1)) μ) else (KD 3 x0 μ (CL (FX3_measureAt x0 x4 x3 μ) fun t102 u103 => AL 1 x2 (w32 (t102 + 1)) u103 fun t104 => AS 1 x2 (w32 (t102 + 1)) (w32 (t104 + 1)) u103 fun u105 => k84 x0 x2 x3 (w32 (x4 + 1)) u105))
def LX3_fit_84 (k73 : Int → Int → Int → Mem → Rz) : Nat → Int → Int → Int → Int → Mem → Rz
  | 0, _, _, _, _, _ => none
  | n + 1, x0, x2, x3, x4, μ => BX3_fit_84 k73 (fun y0 y2 y3 y4 ν => LX3_fit_84 k73 n y0 y2 y3 y4 ν) x0 x2 x3 x4 μ
def BX3_fit_73 (k73 : Int → Int → Int → Mem → Rz) (x0 x2 x3 : Int) (μ : Mem) : Rz := GF 3 2 x0 μ fun t101 => if t101 ≤ x3 then (LX3_fit_122 FU x0 x2 1 μ) else (LX3_fit_84 k73 FU x0 x2 x3 0 μ)
def LX3_fit_73 : Nat → Int → Int → Int → Mem → Rz
  | 0, _, _, _, _ => none
  | n + 1, x0, x2, x3, μ => BX3_fit_73 (fun y0 y2 y3 ν => LX3_fit_73 n y0 y2 y3 ν) x0 x2 x3 μ
def BX3_fit_34 (x0 x1 x2 : Int) (μ : Mem) : Rz := GF 1 1 x1 μ fun t101 => PF 3 0 x0 t101 μ fun u102 => GF 1 2 x1 u102 fun t103 => PF 3 1 x0 t103 u102 fun u104 => KD 1 x1 u104 (CL (FX1_p x1 u104) fun t105 u106 => PF 3 2 x0 t105 u106 fun u107 => GF 1 3 x1 u107 fun t108 => PF 3 3 x0 t108 u107 fun u109 => CL (FJ7_fill_53178 x2 0 u109) fun _ u111 => LX3_fit_73 FU x0 x2 0 u111)
def BX3_fit_0 (x0 x1 x2 : Int) (μ : Mem) : Rz := GF 3 0 x0 μ fun t101 => GF 1 1 x1 μ fun t102 => if ¬ t101 = t102 then (BX3_fit_34 x0 x1 x2 μ) else (GF 3 1 x0 μ fun t103 => GF 1 2 x1 μ fun t104 => if ¬ t103 = t104 then (BX3_fit_34 x0 x1 x2 μ) else (GF 3 3 x0 μ fun t105 => GF 1 3 x1 μ fun t106 => if ¬ t105 = t106 then (BX3_fit_34 x0 x1 x2 μ) else (RT 0 μ)))
def FX3_fit (a0 a1 a2 : Int) (μ : Mem) : Rz := BX3_fit_0 a0 a1 a2 μ
def BX5_isCleaned_19 (s0 : Int) (μ : Mem) : Rz := RTZ s0 μ
def BX5_isCleaned_0 (x0 x1 x2 : Int) (μ : Mem) : Rz := GF 5 6 x0 μ fun t101 => AL 1 t101 x2 μ fun t102 => if ¬ bAnd (bShr t102 x1) 1 = 1 then (BX5_isCleaned_19 0 μ) else (BX5_isCleaned_19 1 μ)
def FX5_isCleaned (a0 a1 a2 : Int) (μ : Mem) : Rz := BX5_isCleaned_0 a0 a1 a2 μ
def BX2_putDots_123 (k24 : Int → Int → Int → Int → Int → Mem → Rz) (k36 : Int → Int → Int → Int → Int → Int → Mem → Rz) (x0 x1 x2 x3 x4 x5 : Int) (μ : Mem) : Rz := k36 x0 x1 x2 x3 x4 (w32 (x5 + 1)) μ
def BX2_putDots_77 (k24 : Int → Int → Int → Int → Int → Mem → Rz) (k36 : Int → Int → Int → Int → Int → Int → Mem → Rz) (x0 x1 x2 x3 x4 x5 x6 s0 : Int) (μ : Mem) : Rz := if s0 = 0 then (BX2_putDots_123 k24 k36 x0 x1 x2 x3 x4 x5 μ) else (KD 5 x1 μ (CL (FX5_isCleaned x1 x2 x6 μ) fun t101 u102 => if ¬ t101 = 0 then (BX2_putDots_123 k24 k36 x0 x1 x2 x3 x4 x5 u102) else (KD 2 x0 u102 (CL (FX2_isDark x0 x1 x2 x5 x4 u102) fun t103 u104 => if t103 = 0 then (BX2_putDots_123 k24 k36 x0 x1 x2 x3 x4 x5 u104) else (GF 2 1 x0 u104 fun t105 => AL 1 t105 x6 u104 fun t106 => AS 1 t105 x6 (bOr t106 (bShl 1 x2)) u104 fun u107 => BX2_putDots_123 k24 k36 x0 x1 x2 (w32 (x3 + 1)) x4 x5 u107)))))
def BX2_putDots_36 (k24 : Int → Int → Int → Int → Int → Mem → Rz) (k36 : Int → Int → Int → Int → Int → Int → Mem → Rz) (x0 x1 x2 x3 x4 x5 : Int) (μ : Mem) : Rz := GF 5 0 x1 μ fun t101 => if t101 ≤ x5 then (k24 x0 x1 x2 x3 (w32 (x4 + 1)) μ) else (KD 5 x1 μ (CL (FX5_indexOfCell x1 x5 x4 μ) fun t102 u103 => GF 2 1 x0 u103 fun t104 => AL 1 t104 t102 u103 fun t105 => CL (FJ6_bitCount_0f7a4 t105 u103) fun t106 u107 => GF 5 2 x1 u107 fun t108 => if t108 ≤ t106 then (BX2_putDots_77 k24 k36 x0 x1 x2 x3 x4 x5 t102 0 u107) else (BX2_putDots_77 k24 k36 x0 x1 x2 x3 x4 x5 t102 1 u107)))
def LX2_putDots_36 (k24 : Int → Int → Int → Int → Int → Mem → Rz) : Nat → Int → Int → Int → Int → Int → Int → Mem → Rz
  | 0, _, _, _, _, _, _, _ => none
  | n + 1, x0, x1, x2, x3, x4, x5, μ => BX2_putDots_36 k24 (fun y0 y1 y2 y3 y4 y5 ν => LX2_putDots_36 k24 n y0 y1 y2 y3 y4 y5 ν) x0 x1 x2 x3 x4 x5 μ
def BX2_putDots_24 (k24 : Int → Int → Int → Int → Int → Mem → Rz) (x0 x1 x2 x3 x4 : Int) (μ : Mem) : Rz := GF 5 1 x1 μ fun t101 => if t101 ≤ x4 then (GF 2 2 x0 μ fun t102 => AS 1 t102 x2 x3 μ fun u103 => RT 0 u103) else (LX2_putDots_36 k24 FU x0 x1 x2 x3 x4 0 μ)
def LX2_putDots_24 : Nat → Int → Int → Int → Int → Int → Mem → Rz
  | 0, _, _, _, _, _, _ => none
  | n + 1, x0, x1, x2, x3, x4, μ => BX2_putDots_24 (fun y0 y1 y2 y3 y4 ν => LX2_putDots_24 n y0 y1 y2 y3 y4 ν) x0 x1 x2 x3 x4 μ
def BX2_putDots_0 (x0 x1 x2 : Int) (μ : Mem) : Rz := GF 2 3 x0 μ fun t101 => AL 6 t101 x2 μ fun t102 => GF 5 4 x1 μ fun t103 => AL 5 t103 x2 μ fun t104 => GF 2 4 x0 μ fun t105 => KD 3 t102 μ (CL (FX3_fit t102 t104 t105 μ) fun _ u107 => LX2_putDots_24 FU x0 x1 x2 0 0 u107)
def FX2_putDots (a0 a1 a2 : Int) (μ : Mem) : Rz := BX2_putDots_0 a0 a1 a2 μ
def BX0_operand_0 (x0 x1 x2 x3 x4 : Int) (μ : Mem) : Rz := SW x0 (-4) [RT x4 μ, RT x3 μ, RT x2 μ, RT x1 μ] (RT x0 μ)
def FX0_operand (a0 a1 a2 a3 a4 : Int) (μ : Mem) : Rz := BX0_operand_0 a0 a1 a2 a3 a4 μ
def BX6_limited_0 (x0 x2 x3 : Int) (μ : Mem) : Rz := CL (FJ9_min_f86c9 x3 x0 μ) fun t101 u102 => CL (FJ9_max_f86c9 x2 t101 u102) fun t103 u104 => RT (w32 t103) u104
def FX6_limited (a0 a2 a3 : Int) (μ : Mem) : Rz := BX6_limited_0 a0 a2 a3 μ
def BX0_result_81 (s0 : Int) (μ : Mem) : Rz := RT s0 μ
def BX0_result_0 (x0 x1 x3 : Int) (μ : Mem) : Rz := SW x0 (-7) [CL (FX6_limited (w64 (x1 * x3)) (-1000000) 1000000 μ) fun t104 u105 => RT t104 u105, CL (FX6_limited (w64 (x1 - x3)) (-1000000) 1000000 μ) fun t106 u107 => RT t106 u107, CL (FX6_limited (w64 (x1 + x3)) (-1000000) 1000000 μ) fun t108 u109 => RT t108 u109] (if ¬ cLong x3 0 = 0 then (LD x1 x3 fun t101 => CL (FX6_limited t101 (-1000000) 1000000 μ) fun t102 u103 => BX0_result_81 t102 u103) else (BX0_result_81 0 μ))
def FX0_result (a0 a1 a3 : Int) (μ : Mem) : Rz := BX0_result_0 a0 a1 a3 μ
def BX0_toneAt_131 (s0 : Int) (μ : Mem) : Rz := RT s0 μ
def BX0_toneAt_105 (k17 : Int → Int → Int → Int → Int → Int → Int → Int → Int → Mem → Rz) (x1 x2 x3 x4 x5 x6 x7 x8 x9 : Int) (μ : Mem) : Rz := k17 x1 x2 x3 x4 x5 x6 x7 x8 (w32 (x9 + 1)) μ
def BX0_toneAt_17 (k17 : Int → Int → Int → Int → Int → Int → Int → Int → Int → Mem → Rz) (x1 x2 x3 x4 x5 x6 x7 x8 x9 : Int) (μ : Mem) : Rz := if x8 ≤ x9 then (if 1 ≤ x6 then (AL 1 x1 0 μ fun t101 => CL (FX6_limited t101 0 100 μ) fun t102 u103 => BX0_toneAt_131 t102 u103) else (BX0_toneAt_131 0 μ)) else (AL 1 x7 x9 μ fun t104 => if t104 ≤ (-5) then (if x6 < 2 then (BX0_toneAt_105 k17 x1 x2 x3 x4 x5 x6 x7 x8 x9 μ) else (LN 1 x1 μ fun t105 => if t105 < x6 then (BX0_toneAt_105 k17 x1 x2 x3 x4 x5 x6 x7 x8 x9 μ) else (AL 1 x1 (w32 ((w32 (x6 + (-1))) - 1)) μ fun t106 => AL 1 x1 (w32 (x6 + (-1))) μ fun t107 => CL (FX0_result t104 t106 t107 μ) fun t108 u109 => AS 1 x1 (w32 ((w32 (x6 + (-1))) - 1)) t108 u109 fun u110 => BX0_toneAt_105 k17 x1 x2 x3 x4 x5 (w32 (x6 + (-1))) x7 x8 x9 u110))) else (LN 1 x1 μ fun t111 => if t111 ≤ x6 then (BX0_toneAt_105 k17 x1 x2 x3 x4 x5 x6 x7 x8 x9 μ) else (CL (FX0_operand t104 x2 x3 x4 x5 μ) fun t112 u113 => AS 1 x1 x6 t112 u113 fun u114 => BX0_toneAt_105 k17 x1 x2 x3 x4 x5 (w32 (x6 + 1)) x7 x8 x9 u114)))
def LX0_toneAt_17 : Nat → Int → Int → Int → Int → Int → Int → Int → Int → Int → Mem → Rz
  | 0, _, _, _, _, _, _, _, _, _, _ => none
  | n + 1, x1, x2, x3, x4, x5, x6, x7, x8, x9, μ => BX0_toneAt_17 (fun y1 y2 y3 y4 y5 y6 y7 y8 y9 ν => LX0_toneAt_17 n y1 y2 y3 y4 y5 y6 y7 y8 y9 ν) x1 x2 x3 x4 x5 x6 x7 x8 x9 μ
def BX0_toneAt_0 (x0 x1 x2 x3 x4 x5 : Int) (μ : Mem) : Rz := GF 0 0 x0 μ fun t101 => LN 1 t101 μ fun t102 => LX0_toneAt_17 FU x1 x2 x3 x4 x5 0 t101 t102 0 μ
def FX0_toneAt (a0 a1 a2 a3 a4 a5 : Int) (μ : Mem) : Rz := BX0_toneAt_0 a0 a1 a2 a3 a4 a5 μ
def BX2_takeTones_89 (k21 : Int → Int → Int → Int → Int → Int → Mem → Rz) (k33 : Int → Int → Int → Int → Int → Int → Int → Mem → Rz) (x0 x1 x2 x3 x4 x5 x6 s0 s1 s2 : Int) (μ : Mem) : Rz := AS 1 s2 s1 s0 μ fun u101 => k33 x0 x1 x2 x3 x4 x5 (w32 (x6 + 1)) u101
def BX2_takeTones_33 (k21 : Int → Int → Int → Int → Int → Int → Mem → Rz) (k33 : Int → Int → Int → Int → Int → Int → Int → Mem → Rz) (x0 x1 x2 x3 x4 x5 x6 : Int) (μ : Mem) : Rz := GF 5 0 x1 μ fun t101 => if t101 ≤ x6 then (k21 x0 x1 x2 x3 x4 (w32 (x5 + 1)) μ) else (KD 5 x1 μ (CL (FX5_indexOfCell x1 x6 x5 μ) fun t102 u103 => GF 5 5 x1 u103 fun t104 => AL 1 t104 t102 u103 fun t105 => if ¬ x3 = 0 then (GF 2 5 x0 u103 fun t106 => KD 0 x3 u103 (CL (FX0_toneAt x3 t106 t105 x6 x5 x2 u103) fun t107 u108 => BX2_takeTones_89 k21 k33 x0 x1 x2 x3 x4 x5 x6 t107 t102 x4 u108)) else (BX2_takeTones_89 k21 k33 x0 x1 x2 x3 x4 x5 x6 t105 t102 x4 u103)))
def LX2_takeTones_33 (k21 : Int → Int → Int → Int → Int → Int → Mem → Rz) : Nat → Int → Int → Int → Int → Int → Int → Int → Mem → Rz
  | 0, _, _, _, _, _, _, _, _ => none
  | n + 1, x0, x1, x2, x3, x4, x5, x6, μ => BX2_takeTones_33 k21 (fun y0 y1 y2 y3 y4 y5 y6 ν => LX2_takeTones_33 k21 n y0 y1 y2 y3 y4 y5 y6 ν) x0 x1 x2 x3 x4 x5 x6 μ
def BX2_takeTones_21 (k21 : Int → Int → Int → Int → Int → Int → Mem → Rz) (x0 x1 x2 x3 x4 x5 : Int) (μ : Mem) : Rz := GF 5 1 x1 μ fun t101 => if t101 ≤ x5 then (RT 0 μ) else (LX2_takeTones_33 k21 FU x0 x1 x2 x3 x4 x5 0 μ)
def LX2_takeTones_21 : Nat → Int → Int → Int → Int → Int → Int → Mem → Rz
  | 0, _, _, _, _, _, _, _ => none
  | n + 1, x0, x1, x2, x3, x4, x5, μ => BX2_takeTones_21 (fun y0 y1 y2 y3 y4 y5 ν => LX2_takeTones_21 n y0 y1 y2 y3 y4 y5 ν) x0 x1 x2 x3 x4 x5 μ
def BX2_takeTones_0 (x0 x1 x2 : Int) (μ : Mem) : Rz := GF 5 4 x1 μ fun t101 => AL 5 t101 x2 μ fun t102 => GF 1 7 t102 μ fun t103 => GF 2 0 x0 μ fun t104 => AL 7 t104 x2 μ fun t105 => LX2_takeTones_21 FU x0 x1 x2 t103 t105 0 μ
def FX2_takeTones (a0 a1 a2 : Int) (μ : Mem) : Rz := BX2_takeTones_0 a0 a1 a2 μ
def BX2_update_76 (μ : Mem) : Rz := RT 0 μ
def BX2_update_51 (k51 : Int → Int → Int → Mem → Rz) (x0 x1 x2 : Int) (μ : Mem) : Rz := GF 5 3 x1 μ fun t101 => if t101 ≤ x2 then (PZ 2 7 x0 1 μ fun u102 => BX2_update_76 u102) else (KD 2 x0 μ (CL (FX2_putDots x0 x1 x2 μ) fun _ u104 => k51 x0 x1 (w32 (x2 + 1)) u104))
def LX2_update_51 : Nat → Int → Int → Int → Mem → Rz
  | 0, _, _, _, _ => none
  | n + 1, x0, x1, x2, μ => BX2_update_51 (fun y0 y1 y2 ν => LX2_update_51 n y0 y1 y2 ν) x0 x1 x2 μ
def BX2_update_34 (x0 x1 : Int) (μ : Mem) : Rz := GF 2 7 x0 μ fun t101 => if ¬ t101 = 0 then (BX2_update_76 μ) else (GF 2 1 x0 μ fun t102 => CL (FJ7_fill_53178 t102 0 μ) fun _ u104 => LX2_update_51 FU x0 x1 0 u104)
def BX2_update_9 (k9 : Int → Int → Int → Mem → Rz) (x0 x1 x2 : Int) (μ : Mem) : Rz := GF 5 3 x1 μ fun t101 => if t101 ≤ x2 then (PZ 2 6 x0 1 μ fun u102 => BX2_update_34 x0 x1 u102) else (KD 2 x0 μ (CL (FX2_takeTones x0 x1 x2 μ) fun _ u104 => k9 x0 x1 (w32 (x2 + 1)) u104))
def LX2_update_9 : Nat → Int → Int → Int → Mem → Rz
  | 0, _, _, _, _ => none
  | n + 1, x0, x1, x2, μ => BX2_update_9 (fun y0 y1 y2 ν => LX2_update_9 n y0 y1 y2 ν) x0 x1 x2 μ
def BX2_update_0 (x0 x1 : Int) (μ : Mem) : Rz := GF 2 6 x0 μ fun t101 => if ¬ t101 = 0 then (BX2_update_34 x0 x1 μ) else (LX2_update_9 FU x0 x1 0 μ)
def FX2_update (a0 a1 : Int) (μ : Mem) : Rz := BX2_update_0 a0 a1 μ
def BX6_requireCell_30 (μ : Mem) : Rz := TH 1 μ
def BX6_requireCell_0 (x0 x1 x2 : Int) (μ : Mem) : Rz := if x1 < 0 then (BX6_requireCell_30 μ) else (GF 6 6 x0 μ fun t101 => GF 5 0 t101 μ fun t102 => if t102 ≤ x1 then (BX6_requireCell_30 μ) else (if x2 < 0 then (BX6_requireCell_30 μ) else (GF 6 6 x0 μ fun t103 => GF 5 1 t103 μ fun t104 => if x2 < t104 then (RT 0 μ) else (BX6_requireCell_30 μ))))
def FX6_requireCell (a0 a1 a2 : Int) (μ : Mem) : Rz := BX6_requireCell_0 a0 a1 a2 μ
def BX6_cell_22 (μ : Mem) : Rz := TH 2 μ
def BX6_cell_134 (s0 : Int) (μ : Mem) : Rz := RT s0 μ
def BX6_cell_157 (s0 : Int) (μ : Mem) : Rz := RT s0 μ
def BX6_cell_176 (s0 : Int) (μ : Mem) : Rz := RT s0 μ
def BX6_cell_0 (x0 x1 x2 x3 x4 : Int) (μ : Mem) : Rz := KD 6 x0 μ (CL (FX6_requirePlate x0 x1 μ) fun _ u102 => KD 6 x0 u102 (CL (FX6_requireCell x0 x2 x3 u102) fun _ u104 => if x4 < 0 then (BX6_cell_22 u104) else (if x4 ≤ 4 then (GF 6 7 x0 u104 fun t105 => GF 6 6 x0 u104 fun t106 => KD 2 t105 u104 (CL (FX2_update t105 t106 u104) fun _ u108 => GF 6 6 x0 u108 fun t109 => KD 5 t109 u108 (CL (FX5_indexOfCell t109 x2 x3 u108) fun t110 u111 => SW x4 0 [GF 6 7 x0 u111 fun t115 => GF 6 6 x0 u111 fun t116 => KD 2 t115 u111 (CL (FX2_rankAt t115 t116 x1 x2 x3 u111) fun t117 u118 => RT t117 u118), GF 6 7 x0 u111 fun t119 => GF 2 0 t119 u111 fun t120 => AL 7 t120 x1 u111 fun t121 => AL 1 t121 t110 u111 fun t122 => RT t122 u111, GF 6 7 x0 u111 fun t123 => KD 2 t123 u111 (CL (FX2_hasDot t123 x1 t110 u111) fun t124 u125 => if t124 = 0 then (BX6_cell_134 0 u125) else (BX6_cell_134 1 u125)), GF 6 7 x0 u111 fun t126 => GF 6 6 x0 u111 fun t127 => KD 2 t126 u111 (CL (FX2_isSpot t126 t127 x1 x2 x3 u111) fun t128 u129 => if t128 = 0 then (BX6_cell_157 0 u129) else (BX6_cell_157 1 u129))] (GF 6 6 x0 u111 fun t112 => KD 5 t112 u111 (CL (FX5_isCleaned t112 x1 t110 u111) fun t113 u114 => if t113 = 0 then (BX6_cell_176 0 u114) else (BX6_cell_176 1 u114)))))) else (BX6_cell_22 u104))))
def FX6_cell (a0 a1 a2 a3 a4 : Int) (μ : Mem) : Rz := BX6_cell_0 a0 a1 a2 a3 a4 μ
def BX5_cells_0 (x0 : Int) (μ : Mem) : Rz := GF 5 0 x0 μ fun t101 => GF 5 1 x0 μ fun t102 => RT (w32 (t101 * t102)) μ
def FX5_cells (a0 : Int) (μ : Mem) : Rz := BX5_cells_0 a0 μ
def BX2_cellsHaving_34 (k5 : Int → Int → Int → Int → Int → Mem → Rz) (x0 x1 x2 x4 s0 s1 : Int) (μ : Mem) : Rz := LT (w32 (s1 + s0)) fun x101 => k5 x0 x1 x2 x101 (w32 (x4 + 1)) μ
def BX2_cellsHaving_5 (k5 : Int → Int → Int → Int → Int → Mem → Rz) (x0 x1 x2 x3 x4 : Int) (μ : Mem) : Rz := KD 5 x1 μ (CL (FX5_cells x1 μ) fun t101 u102 => if t101 ≤ x4 then (RT x3 u102) else (GF 2 1 x0 u102 fun t103 => AL 1 t103 x4 u102 fun t104 => CL (FJ6_bitCount_0f7a4 t104 u102) fun t105 u106 => if ¬ t105 = x2 then (BX2_cellsHaving_34 k5 x0 x1 x2 x4 0 x3 u106) else (BX2_cellsHaving_34 k5 x0 x1 x2 x4 1 x3 u106)))
def LX2_cellsHaving_5 : Nat → Int → Int → Int → Int → Int → Mem → Rz
  | 0, _, _, _, _, _, _ => none
  | n + 1, x0, x1, x2, x3, x4, μ => BX2_cellsHaving_5 (fun y0 y1 y2 y3 y4 ν => LX2_cellsHaving_5 n y0 y1 y2 y3 y4 ν) x0 x1 x2 x3 x4 μ
def BX2_cellsHaving_0 (x0 x1 x2 : Int) (μ : Mem) : Rz := LX2_cellsHaving_5 FU x0 x1 x2 0 0 μ
def FX2_cellsHaving (a0 a1 a2 : Int) (μ : Mem) : Rz := BX2_cellsHaving_0 a0 a1 a2 μ
def BX6_cellsWith_9 (μ : Mem) : Rz := TH 2 μ
def BX6_cellsWith_0 (x0 x1 : Int) (μ : Mem) : Rz := if x1 < 0 then (BX6_cellsWith_9 μ) else (if x1 ≤ 4 then (GF 6 7 x0 μ fun t101 => GF 6 6 x0 μ fun t102 => KD 2 t101 μ (CL (FX2_update t101 t102 μ) fun _ u104 => GF 6 7 x0 u104 fun t105 => GF 6 6 x0 u104 fun t106 => KD 2 t105 u104 (CL (FX2_cellsHaving t105 t106 x1 u104) fun t107 u108 => RT t107 u108))) else (BX6_cellsWith_9 μ))
def FX6_cellsWith (a0 a1 : Int) (μ : Mem) : Rz := BX6_cellsWith_0 a0 a1 μ
def BX1_become_0 (x0 x1 : Int) (μ : Mem) : Rz := GF 1 0 x1 μ fun t101 => PF 1 0 x0 t101 μ fun u102 => GF 1 1 x1 u102 fun t103 => PF 1 1 x0 t103 u102 fun u104 => GF 1 2 x1 u104 fun t105 => PF 1 2 x0 t105 u104 fun u106 => GF 1 3 x1 u106 fun t107 => PF 1 3 x0 t107 u106 fun u108 => GF 1 4 x1 u108 fun t109 => PF 1 4 x0 t109 u108 fun u110 => GF 1 5 x1 u110 fun t111 => PF 1 5 x0 t111 u110 fun u112 => GF 1 6 x1 u112 fun t113 => PF 1 6 x0 t113 u112 fun u114 => GF 1 7 x1 u114 fun t115 => PF 1 7 x0 t115 u114 fun u116 => RT 0 u116
def FX1_become (a0 a1 : Int) (μ : Mem) : Rz := BX1_become_0 a0 a1 μ
def BX5_become_34 (k34 : Int → Int → Int → Mem → Rz) (x0 x1 x2 : Int) (μ : Mem) : Rz := GF 5 3 x0 μ fun t101 => if t101 ≤ x2 then (GF 5 5 x1 μ fun t102 => GF 5 5 x0 μ fun t103 => ACP t102 0 t103 0 192 μ fun u104 => GF 5 6 x1 u104 fun t105 => GF 5 6 x0 u104 fun t106 => ACP t105 0 t106 0 192 u104 fun u107 => RT 0 u107) else (GF 5 4 x0 μ fun t108 => AL 5 t108 x2 μ fun t109 => GF 5 4 x1 μ fun t110 => AL 5 t110 x2 μ fun t111 => KD 1 t109 μ (CL (FX1_become t109 t111 μ) fun _ u113 => k34 x0 x1 (w32 (x2 + 1)) u113))
def LX5_become_34 : Nat → Int → Int → Int → Mem → Rz
  | 0, _, _, _, _ => none
  | n + 1, x0, x1, x2, μ => BX5_become_34 (fun y0 y1 y2 ν => LX5_become_34 n y0 y1 y2 ν) x0 x1 x2 μ
def BX5_become_0 (x0 x1 : Int) (μ : Mem) : Rz := GF 5 0 x1 μ fun t101 => PF 5 0 x0 t101 μ fun u102 => GF 5 1 x1 u102 fun t103 => PF 5 1 x0 t103 u102 fun u104 => GF 5 2 x1 u104 fun t105 => PF 5 2 x0 t105 u104 fun u106 => GF 5 3 x1 u106 fun t107 => PF 5 3 x0 t107 u106 fun u108 => LX5_become_34 FU x0 x1 0 u108
def FX5_become (a0 a1 : Int) (μ : Mem) : Rz := BX5_become_0 a0 a1 μ
def BX6_draftSheet_0 (x0 : Int) (μ : Mem) : Rz := GF 6 3 x0 μ fun t101 => GF 6 4 x0 μ fun t102 => RM (w32 (t102 + 1)) 10 fun t103 => AL 4 t101 t103 μ fun t104 => RT t104 μ
def FX6_draftSheet (a0 : Int) (μ : Mem) : Rz := BX6_draftSheet_0 a0 μ
def BX2_forgetDots_0 (x0 : Int) (μ : Mem) : Rz := PZ 2 7 x0 0 μ fun u101 => RT 0 u101
def FX2_forgetDots (a0 : Int) (μ : Mem) : Rz := BX2_forgetDots_0 a0 μ
def BX6_useDraft_0 (x0 : Int) (μ : Mem) : Rz := GF 6 4 x0 μ fun t101 => RM (w32 (t101 + 1)) 10 fun t102 => PF 6 4 x0 t102 μ fun u103 => GF 6 3 x0 u103 fun t104 => GF 6 4 x0 u103 fun t105 => AL 4 t104 t105 u103 fun t106 => PF 6 6 x0 t106 u103 fun u107 => GF 6 5 x0 u107 fun t108 => CL (FJ9_min_7cf53 (w32 (t108 + 1)) 8 u107) fun t109 u110 => PF 6 5 x0 t109 u110 fun u111 => GF 6 7 x0 u111 fun t112 => KD 2 t112 u111 (CL (FX2_forgetDots t112 u111) fun _ u114 => RT 0 u114)
def FX6_useDraft (a0 : Int) (μ : Mem) : Rz := BX6_useDraft_0 a0 μ
def BX6_startChange_0 (x0 : Int) (μ : Mem) : Rz := KD 6 x0 μ (CL (FX6_draftSheet x0 μ) fun t101 u102 => GF 6 6 x0 u102 fun t103 => KD 5 t101 u102 (CL (FX5_become t101 t103 u102) fun _ u105 => KD 6 x0 u105 (CL (FX6_useDraft x0 u105) fun _ u107 => RT 0 u107)))
def FX6_startChange (a0 : Int) (μ : Mem) : Rz := BX6_startChange_0 a0 μ
def BX6_clean_95 (k24 : Int → Int → Int → Int → Mem → Rz) (k38 : Int → Int → Int → Int → Int → Mem → Rz) (x0 x1 x2 x3 x4 : Int) (μ : Mem) : Rz := k38 x0 x1 x2 x3 (w32 (x4 + 1)) μ
def BX6_clean_38 (k24 : Int → Int → Int → Int → Mem → Rz) (k38 : Int → Int → Int → Int → Int → Mem → Rz) (x0 x1 x2 x3 x4 : Int) (μ : Mem) : Rz := GF 6 6 x0 μ fun t101 => GF 5 0 t101 μ fun t102 => if t102 ≤ x4 then (k24 x0 x1 x2 (w32 (x3 + 1)) μ) else (GF 6 7 x0 μ fun t103 => GF 6 6 x0 μ fun t104 => KD 2 t103 μ (CL (FX2_isSpot t103 t104 x1 x4 x3 μ) fun t105 u106 => if t105 = 0 then (BX6_clean_95 k24 k38 x0 x1 x2 x3 x4 u106) else (GF 6 6 x0 u106 fun t107 => GF 5 6 t107 u106 fun t108 => GF 6 6 x0 u106 fun t109 => KD 5 t109 u106 (CL (FX5_indexOfCell t109 x4 x3 u106) fun t110 u111 => AL 1 t108 t110 u111 fun t112 => AS 1 t108 t110 (bOr t112 (bShl 1 x1)) u111 fun u113 => BX6_clean_95 k24 k38 x0 x1 (w32 (x2 + 1)) x3 x4 u113))))
def LX6_clean_38 (k24 : Int → Int → Int → Int → Mem → Rz) : Nat → Int → Int → Int → Int → Int → Mem → Rz
  | 0, _, _, _, _, _, _ => none
  | n + 1, x0, x1, x2, x3, x4, μ => BX6_clean_38 k24 (fun y0 y1 y2 y3 y4 ν => LX6_clean_38 k24 n y0 y1 y2 y3 y4 ν) x0 x1 x2 x3 x4 μ
def BX6_clean_24 (k24 : Int → Int → Int → Int → Mem → Rz) (x0 x1 x2 x3 : Int) (μ : Mem) : Rz := GF 6 6 x0 μ fun t101 => GF 5 1 t101 μ fun t102 => if t102 ≤ x3 then (RT x2 μ) else (LX6_clean_38 k24 FU x0 x1 x2 x3 0 μ)
def LX6_clean_24 : Nat → Int → Int → Int → Int → Mem → Rz
  | 0, _, _, _, _, _ => none
  | n + 1, x0, x1, x2, x3, μ => BX6_clean_24 (fun y0 y1 y2 y3 ν => LX6_clean_24 n y0 y1 y2 y3 ν) x0 x1 x2 x3 μ
def BX6_clean_0 (x0 x1 : Int) (μ : Mem) : Rz := KD 6 x0 μ (CL (FX6_requirePlate x0 x1 μ) fun _ u102 => GF 6 7 x0 u102 fun t103 => GF 6 6 x0 u102 fun t104 => KD 2 t103 u102 (CL (FX2_update t103 t104 u102) fun _ u106 => KD 6 x0 u106 (CL (FX6_startChange x0 u106) fun _ u108 => LX6_clean_24 FU x0 x1 0 0 u108)))
def FX6_clean (a0 a1 : Int) (μ : Mem) : Rz := BX6_clean_0 a0 a1 μ
def BX6_covered_47 (s0 : Int) (μ : Mem) : Rz := RT s0 μ
def BX6_covered_0 (x0 x1 : Int) (μ : Mem) : Rz := KD 6 x0 μ (CL (FX6_requirePlate x0 x1 μ) fun _ u102 => GF 6 7 x0 u102 fun t103 => GF 6 6 x0 u102 fun t104 => KD 2 t103 u102 (CL (FX2_update t103 t104 u102) fun _ u106 => GF 6 6 x0 u106 fun t107 => KD 5 t107 u106 (CL (FX5_cells t107 u106) fun t108 u109 => LT (fOf t108) fun x110 => if fCmp .l x110 0 ≤ 0 then (BX6_covered_47 0 u109) else (GF 6 7 x0 u109 fun t111 => GF 2 2 t111 u109 fun t112 => AL 1 t112 x1 u109 fun t113 => FD (fOf t113) x110 fun t114 => BX6_covered_47 t114 u109))))
def FX6_covered (a0 a1 : Int) (μ : Mem) : Rz := BX6_covered_0 a0 a1 μ
def BX6_dirty_56 (k13 : Int → Int → Int → Int → Mem → Rz) (x0 x1 x2 x3 : Int) (μ : Mem) : Rz := k13 x0 x1 x2 (w32 (x3 + 1)) μ
def BX6_dirty_13 (k13 : Int → Int → Int → Int → Mem → Rz) (x0 x1 x2 x3 : Int) (μ : Mem) : Rz := GF 6 6 x0 μ fun t101 => KD 5 t101 μ (CL (FX5_cells t101 μ) fun t102 u103 => if t102 ≤ x3 then (RT x2 u103) else (GF 6 6 x0 u103 fun t104 => KD 5 t104 u103 (CL (FX5_isCleaned t104 x1 x3 u103) fun t105 u106 => if t105 = 0 then (BX6_dirty_56 k13 x0 x1 x2 x3 u106) else (GF 6 6 x0 u106 fun t107 => GF 5 6 t107 u106 fun t108 => AL 1 t108 x3 u106 fun t109 => AS 1 t108 x3 (bAnd t109 (bXor (bShl 1 x1) (-1))) u106 fun u110 => BX6_dirty_56 k13 x0 x1 (w32 (x2 + 1)) x3 u110))))
def LX6_dirty_13 : Nat → Int → Int → Int → Int → Mem → Rz
  | 0, _, _, _, _, _ => none
  | n + 1, x0, x1, x2, x3, μ => BX6_dirty_13 (fun y0 y1 y2 y3 ν => LX6_dirty_13 n y0 y1 y2 y3 ν) x0 x1 x2 x3 μ
def BX6_dirty_0 (x0 x1 : Int) (μ : Mem) : Rz := KD 6 x0 μ (CL (FX6_requirePlate x0 x1 μ) fun _ u102 => KD 6 x0 u102 (CL (FX6_startChange x0 u102) fun _ u104 => LX6_dirty_13 FU x0 x1 0 0 u104))
def FX6_dirty (a0 a1 : Int) (μ : Mem) : Rz := BX6_dirty_0 a0 a1 μ
def BX6_fill_17 (μ : Mem) : Rz := TH 2 μ
def BX6_fill_0 (x0 x1 x2 : Int) (μ : Mem) : Rz := KD 6 x0 μ (CL (FX6_requirePlate x0 x1 μ) fun _ u102 => if x2 < 1 then (BX6_fill_17 u102) else (if x2 ≤ 9999 then (KD 6 x0 u102 (CL (FX6_startChange x0 u102) fun _ u104 => GF 6 6 x0 u104 fun t105 => GF 5 4 t105 u104 fun t106 => AL 5 t106 x1 u104 fun t107 => GF 1 6 t107 u104 fun t108 => CL (FJ9_min_7cf53 (w32 (t108 + x2)) 99999 u104) fun t109 u110 => PF 1 6 t107 t109 u110 fun u111 => GF 1 6 t107 u111 fun t112 => RT t112 u111)) else (BX6_fill_17 u102)))
def FX6_fill (a0 a1 a2 : Int) (μ : Mem) : Rz := BX6_fill_0 a0 a1 a2 μ
def BX5_indexOfName_2 (k2 : Int → Int → Int → Mem → Rz) (x0 x1 x3 : Int) (μ : Mem) : Rz := GF 5 3 x0 μ fun t101 => if t101 ≤ x3 then (RT (-1) μ) else (GF 5 4 x0 μ fun t102 => AL 5 t102 x3 μ fun t103 => GF 1 0 t103 μ fun t104 => if ¬ cLong t104 x1 = 0 then (k2 x0 x1 (w32 (x3 + 1)) μ) else (RT x3 μ))
def LX5_indexOfName_2 : Nat → Int → Int → Int → Mem → Rz
  | 0, _, _, _, _ => none
  | n + 1, x0, x1, x3, μ => BX5_indexOfName_2 (fun y0 y1 y3 ν => LX5_indexOfName_2 n y0 y1 y3 ν) x0 x1 x3 μ
def BX5_indexOfName_0 (x0 x1 : Int) (μ : Mem) : Rz := LX5_indexOfName_2 FU x0 x1 0 μ
def FX5_indexOfName (a0 a1 : Int) (μ : Mem) : Rz := BX5_indexOfName_0 a0 a1 μ
def BX6_packedName_40 (x3 : Int) (μ : Mem) : Rz := RT x3 μ
def BX6_packedName_5 (k5 : Int → Int → Int → Int → Mem → Rz) (x0 x2 x3 x5 : Int) (μ : Mem) : Rz := if x2 ≤ x5 then (BX6_packedName_40 x3 μ) else (LN 0 x0 μ fun t101 => if t101 ≤ x5 then (BX6_packedName_40 x3 μ) else (AL 0 x0 x5 μ fun t102 => LT (w64 ((w64 (x3 * 256)) + (bAnd t102 255))) fun x103 => k5 x0 x2 x103 (w32 (x5 + 1)) μ))
def LX6_packedName_5 : Nat → Int → Int → Int → Int → Mem → Rz
  | 0, _, _, _, _, _ => none
  | n + 1, x0, x2, x3, x5, μ => BX6_packedName_5 (fun y0 y2 y3 y5 ν => LX6_packedName_5 n y0 y2 y3 y5 ν) x0 x2 x3 x5 μ
def BX6_packedName_0 (x0 x1 x2 : Int) (μ : Mem) : Rz := LX6_packedName_5 FU x0 x2 1 x1 μ
def FX6_packedName (a0 a1 a2 : Int) (μ : Mem) : Rz := BX6_packedName_0 a0 a1 a2 μ
def BX6_requireBuffered_12 (μ : Mem) : Rz := TH 2 μ
def BX6_requireBuffered_0 (x0 x1 : Int) (μ : Mem) : Rz := if x1 < 0 then (BX6_requireBuffered_12 μ) else (GF 6 1 x0 μ fun t101 => if x1 ≤ t101 then (RT 0 μ) else (BX6_requireBuffered_12 μ))
def FX6_requireBuffered (a0 a1 : Int) (μ : Mem) : Rz := BX6_requireBuffered_0 a0 a1 μ
def BX6_find_16 (μ : Mem) : Rz := RT (-1) μ
def BX6_find_0 (x0 x1 : Int) (μ : Mem) : Rz := KD 6 x0 μ (CL (FX6_requireBuffered x0 x1 μ) fun _ u102 => if x1 < 1 then (BX6_find_16 u102) else (if x1 ≤ 6 then (GF 6 6 x0 u102 fun t103 => GF 6 0 x0 u102 fun t104 => CL (FX6_packedName t104 0 x1 u102) fun t105 u106 => KD 5 t103 u106 (CL (FX5_indexOfName t103 t105 u106) fun t107 u108 => RT t107 u108)) else (BX6_find_16 u102)))
def FX6_find (a0 a1 : Int) (μ : Mem) : Rz := BX6_find_0 a0 a1 μ
def BX6_inks_0 (x0 x1 x2 : Int) (μ : Mem) : Rz := KD 6 x0 μ (CL (FX6_requireCell x0 x1 x2 μ) fun _ u102 => GF 6 7 x0 u102 fun t103 => GF 6 6 x0 u102 fun t104 => KD 2 t103 u102 (CL (FX2_update t103 t104 u102) fun _ u106 => GF 6 7 x0 u106 fun t107 => GF 2 1 t107 u106 fun t108 => GF 6 6 x0 u106 fun t109 => KD 5 t109 u106 (CL (FX5_indexOfCell t109 x1 x2 u106) fun t110 u111 => AL 1 t108 t110 u111 fun t112 => RT t112 u111)))
def FX6_inks (a0 a1 a2 : Int) (μ : Mem) : Rz := BX6_inks_0 a0 a1 a2 μ
def BX6_limit_10 (μ : Mem) : Rz := TH 2 μ
def BX6_limit_0 (x0 x1 : Int) (μ : Mem) : Rz := if x1 < 1 then (BX6_limit_10 μ) else (if x1 ≤ 4 then (KD 6 x0 μ (CL (FX6_startChange x0 μ) fun _ u102 => GF 6 6 x0 u102 fun t103 => GF 5 2 t103 u102 fun t104 => GF 6 6 x0 u102 fun t105 => PF 5 2 t105 x1 u102 fun u106 => RT t104 u106)) else (BX6_limit_10 μ))
def FX6_limit (a0 a1 : Int) (μ : Mem) : Rz := BX6_limit_0 a0 a1 μ
def BX2_forgetTones_0 (x0 : Int) (μ : Mem) : Rz := PZ 2 6 x0 0 μ fun u101 => PZ 2 7 x0 0 u101 fun u102 => RT 0 u102
def FX2_forgetTones (a0 : Int) (μ : Mem) : Rz := BX2_forgetTones_0 a0 μ
def BX4_takeRun_26 (μ : Mem) : Rz := RT 0 μ
def BX4_takeRun_82 (μ : Mem) : Rz := RT 0 μ
def BX4_takeRun_32 (k32 : Int → Int → Int → Mem → Rz) (x0 x1 x2 : Int) (μ : Mem) : Rz := GF 4 9 x0 μ fun t101 => GF 4 3 x0 μ fun t102 => if t102 ≤ t101 then (BX4_takeRun_82 μ) else (GF 4 2 x0 μ fun t103 => GF 4 9 x0 μ fun t104 => AL 0 t103 t104 μ fun t105 => if t105 < x1 then (BX4_takeRun_82 μ) else (GF 4 2 x0 μ fun t106 => GF 4 9 x0 μ fun t107 => AL 0 t106 t107 μ fun t108 => if x2 < t108 then (BX4_takeRun_82 μ) else (GF 4 9 x0 μ fun t109 => PF 4 9 x0 (w32 (t109 + 1)) μ fun u110 => k32 x0 x1 x2 u110)))
def LX4_takeRun_32 : Nat → Int → Int → Int → Mem → Rz
  | 0, _, _, _, _ => none
  | n + 1, x0, x1, x2, μ => BX4_takeRun_32 (fun y0 y1 y2 ν => LX4_takeRun_32 n y0 y1 y2 ν) x0 x1 x2 μ
def BX4_takeRun_0 (x0 x1 x2 x3 : Int) (μ : Mem) : Rz := GF 4 2 x0 μ fun t101 => GF 4 8 x0 μ fun t102 => AL 0 t101 t102 μ fun t103 => if t103 < x1 then (BX4_takeRun_26 μ) else (GF 4 2 x0 μ fun t104 => GF 4 8 x0 μ fun t105 => AL 0 t104 t105 μ fun t106 => if t106 ≤ x2 then (PF 4 7 x0 x3 μ fun u107 => LX4_takeRun_32 FU x0 x1 x2 u107) else (BX4_takeRun_26 μ))
def FX4_takeRun (a0 a1 a2 a3 : Int) (μ : Mem) : Rz := BX4_takeRun_0 a0 a1 a2 a3 μ
def BX4_advance_46 (x0 : Int) (μ : Mem) : Rz := GF 4 8 x0 μ fun t101 => GF 4 3 x0 μ fun t102 => if t101 < t102 then (PF 4 7 x0 3 μ fun u103 => GF 4 8 x0 u103 fun t104 => PF 4 9 x0 (w32 (t104 + 1)) u103 fun u105 => KD 4 x0 u105 (CL (FX4_takeRun x0 97 122 2 u105) fun _ u107 => KD 4 x0 u107 (CL (FX4_takeRun x0 48 57 1 u107) fun _ u109 => RT 0 u109))) else (PF 4 7 x0 0 μ fun u110 => GF 4 8 x0 u110 fun t111 => PF 4 9 x0 t111 u110 fun u112 => RT 0 u112)
def BX4_advance_8 (k8 : Int → Mem → Rz) (x0 : Int) (μ : Mem) : Rz := GF 4 8 x0 μ fun t101 => GF 4 3 x0 μ fun t102 => if t102 ≤ t101 then (BX4_advance_46 x0 μ) else (GF 4 2 x0 μ fun t103 => GF 4 8 x0 μ fun t104 => AL 0 t103 t104 μ fun t105 => if ¬ t105 = 32 then (BX4_advance_46 x0 μ) else (GF 4 8 x0 μ fun t106 => PF 4 8 x0 (w32 (t106 + 1)) μ fun u107 => k8 x0 u107))
def LX4_advance_8 : Nat → Int → Mem → Rz
  | 0, _, _ => none
  | n + 1, x0, μ => BX4_advance_8 (fun y0 ν => LX4_advance_8 n y0 ν) x0 μ
def BX4_advance_0 (x0 : Int) (μ : Mem) : Rz := GF 4 9 x0 μ fun t101 => PF 4 8 x0 t101 μ fun u102 => LX4_advance_8 FU x0 u102
def FX4_advance (a0 : Int) (μ : Mem) : Rz := BX4_advance_0 a0 μ
def BX4_fail_0 (x0 x1 : Int) (μ : Mem) : Rz := PF 4 0 x0 x1 μ fun u101 => GF 4 8 x0 u101 fun t102 => PF 4 1 x0 t102 u101 fun u103 => RTZ 0 u103
def FX4_fail (a0 a1 : Int) (μ : Mem) : Rz := BX4_fail_0 a0 a1 μ
def BX4_isWord_24 (μ : Mem) : Rz := RTZ 0 μ
def BX4_isWord_28 (k28 : Int → Int → Int → Mem → Rz) (x0 x1 x2 : Int) (μ : Mem) : Rz := STL x1 fun t101 => if t101 ≤ x2 then (RTZ 1 μ) else (GF 4 2 x0 μ fun t102 => GF 4 8 x0 μ fun t103 => AL 0 t102 (w32 (t103 + x2)) μ fun t104 => STC x1 x2 fun t105 => if t104 = t105 then (k28 x0 x1 (w32 (x2 + 1)) μ) else (RTZ 0 μ))
def LX4_isWord_28 : Nat → Int → Int → Int → Mem → Rz
  | 0, _, _, _, _ => none
  | n + 1, x0, x1, x2, μ => BX4_isWord_28 (fun y0 y1 y2 ν => LX4_isWord_28 n y0 y1 y2 ν) x0 x1 x2 μ
def BX4_isWord_0 (x0 x1 : Int) (μ : Mem) : Rz := GF 4 7 x0 μ fun t101 => if ¬ t101 = 2 then (BX4_isWord_24 μ) else (GF 4 9 x0 μ fun t102 => GF 4 8 x0 μ fun t103 => STL x1 fun t104 => if w32 (t102 - t103) = t104 then (LX4_isWord_28 FU x0 x1 0 μ) else (BX4_isWord_24 μ))
def FX4_isWord (a0 a1 : Int) (μ : Mem) : Rz := BX4_isWord_0 a0 a1 μ
def BX4_takeNumber_69 (x0 : Int) (μ : Mem) : Rz := KD 4 x0 μ (CL (FX4_fail x0 (-3) μ) fun t101 u102 => RTZ t101 u102)
def BX4_takeNumber_23 (k23 : Int → Int → Int → Int → Int → Mem → Rz) (x0 x1 x2 x3 x4 : Int) (μ : Mem) : Rz := GF 4 9 x0 μ fun t101 => if t101 ≤ x4 then (if x3 < x1 then (BX4_takeNumber_69 x0 μ) else (if x3 ≤ x2 then (PF 4 10 x0 x3 μ fun u102 => KD 4 x0 u102 (CL (FX4_advance x0 u102) fun _ u104 => RTZ 1 u104)) else (BX4_takeNumber_69 x0 μ))) else (GF 4 2 x0 μ fun t105 => AL 0 t105 x4 μ fun t106 => CL (FJ9_min_7cf53 (w32 ((w32 ((w32 (x3 * 10)) + t106)) - 48)) 1000000 μ) fun t107 u108 => k23 x0 x1 x2 t107 (w32 (x4 + 1)) u108)
def LX4_takeNumber_23 : Nat → Int → Int → Int → Int → Int → Mem → Rz
  | 0, _, _, _, _, _, _ => none
  | n + 1, x0, x1, x2, x3, x4, μ => BX4_takeNumber_23 (fun y0 y1 y2 y3 y4 ν => LX4_takeNumber_23 n y0 y1 y2 y3 y4 ν) x0 x1 x2 x3 x4 μ
def BX4_takeNumber_0 (x0 x1 x2 : Int) (μ : Mem) : Rz := GF 4 7 x0 μ fun t101 => if t101 = 1 then (GF 4 8 x0 μ fun t102 => LX4_takeNumber_23 FU x0 x1 x2 0 t102 μ) else (KD 4 x0 μ (CL (FX4_fail x0 (-2) μ) fun t103 u104 => RTZ t103 u104))
def FX4_takeNumber (a0 a1 a2 : Int) (μ : Mem) : Rz := BX4_takeNumber_0 a0 a1 a2 μ
def BX4_isSign_26 (s0 : Int) (μ : Mem) : Rz := RTZ s0 μ
def BX4_isSign_25 (μ : Mem) : Rz := BX4_isSign_26 0 μ
def BX4_isSign_0 (x0 x1 : Int) (μ : Mem) : Rz := GF 4 7 x0 μ fun t101 => if ¬ t101 = 3 then (BX4_isSign_25 μ) else (GF 4 2 x0 μ fun t102 => GF 4 8 x0 μ fun t103 => AL 0 t102 t103 μ fun t104 => if ¬ t104 = x1 then (BX4_isSign_25 μ) else (BX4_isSign_26 1 μ))
def FX4_isSign (a0 a1 : Int) (μ : Mem) : Rz := BX4_isSign_0 a0 a1 μ
def BX4_takeSign_0 (x0 x1 : Int) (μ : Mem) : Rz := KD 4 x0 μ (CL (FX4_isSign x0 x1 μ) fun t101 u102 => if ¬ t101 = 0 then (KD 4 x0 u102 (CL (FX4_advance x0 u102) fun _ u104 => RTZ 1 u104)) else (KD 4 x0 u102 (CL (FX4_fail x0 (-2) u102) fun t105 u106 => RTZ t105 u106)))
def FX4_takeSign (a0 a1 : Int) (μ : Mem) : Rz := BX4_takeSign_0 a0 a1 μ
def BX5_empty_0 (x0 x1 x2 : Int) (μ : Mem) : Rz := PF 5 0 x0 x1 μ fun u101 => PF 5 1 x0 x2 u101 fun u102 => PF 5 2 x0 4 u102 fun u103 => PF 5 3 x0 0 u103 fun u104 => GF 5 5 x0 u104 fun t105 => CL (FJ7_fill_53178 t105 0 u104) fun _ u107 => GF 5 6 x0 u107 fun t108 => CL (FJ7_fill_53178 t108 0 u107) fun _ u110 => RT 0 u110
def FX5_empty (a0 a1 a2 : Int) (μ : Mem) : Rz := BX5_empty_0 a0 a1 a2 μ
def BX4_readPicture_0 (x0 : Int) (μ : Mem) : Rz := KD 4 x0 μ (CL (FX4_isWord x0 0 μ) fun t101 u102 => if ¬ t101 = 0 then (KD 4 x0 u102 (CL (FX4_advance x0 u102) fun _ u104 => KD 4 x0 u104 (CL (FX4_takeNumber x0 1 16 u104) fun t105 u106 => if ¬ t105 = 0 then (GF 4 10 x0 u106 fun t107 => KD 4 x0 u106 (CL (FX4_takeNumber x0 1 12 u106) fun t108 u109 => if ¬ t108 = 0 then (GF 4 4 x0 u109 fun t110 => GF 4 10 x0 u109 fun t111 => KD 5 t110 u109 (CL (FX5_empty t110 t107 t111 u109) fun _ u113 => KD 4 x0 u113 (CL (FX4_takeSign x0 59 u113) fun t114 u115 => RTZ t114 u115))) else (RTZ 0 u109))) else (RTZ 0 u106)))) else (KD 4 x0 u102 (CL (FX4_fail x0 (-2) u102) fun t116 u117 => RTZ t116 u117)))
def FX4_readPicture (a0 : Int) (μ : Mem) : Rz := BX4_readPicture_0 a0 μ
def BX4_isName_43 (s0 : Int) (μ : Mem) : Rz := RTZ s0 μ
def BX4_isName_38 (μ : Mem) : Rz := BX4_isName_43 1 μ
def BX4_isName_0 (x0 : Int) (μ : Mem) : Rz := GF 4 7 x0 μ fun t101 => if t101 = 2 then (GF 4 9 x0 μ fun t102 => GF 4 8 x0 μ fun t103 => if w32 (t102 - t103) ≤ 6 then (BX4_isName_38 μ) else (KD 4 x0 μ (CL (FX4_fail x0 (-3) μ) fun t104 u105 => if t104 = 0 then (BX4_isName_43 0 u105) else (BX4_isName_38 u105)))) else (KD 4 x0 μ (CL (FX4_fail x0 (-2) μ) fun t106 u107 => RTZ t106 u107))
def FX4_isName (a0 : Int) (μ : Mem) : Rz := BX4_isName_0 a0 μ
def BX4_readInk_0 (x0 : Int) (μ : Mem) : Rz := KD 4 x0 μ (CL (FX4_advance x0 μ) fun _ u102 => KD 4 x0 u102 (CL (FX4_isName x0 u102) fun t103 u104 => if ¬ t103 = 0 then (GF 4 4 x0 u104 fun t105 => GF 4 2 x0 u104 fun t106 => GF 4 8 x0 u104 fun t107 => GF 4 9 x0 u104 fun t108 => CL (FX6_packedName t106 t107 t108 u104) fun t109 u110 => KD 5 t105 u110 (CL (FX5_indexOfName t105 t109 u110) fun t111 u112 => if 0 ≤ t111 then (KD 4 x0 u112 (CL (FX4_advance x0 u112) fun _ u114 => KD 4 x0 u114 (CL (FX4_takeNumber x0 0 99999 u114) fun t115 u116 => if ¬ t115 = 0 then (GF 4 4 x0 u116 fun t117 => GF 5 4 t117 u116 fun t118 => AL 5 t118 t111 u116 fun t119 => GF 4 10 x0 u116 fun t120 => PF 1 6 t119 t120 u116 fun u121 => RTZ 1 u121) else (RTZ 0 u116)))) else (KD 4 x0 u112 (CL (FX4_fail x0 (-4) u112) fun t122 u123 => RTZ t122 u123)))) else (RTZ 0 u104)))
def FX4_readInk (a0 : Int) (μ : Mem) : Rz := BX4_readInk_0 a0 μ
def BX4_readLimit_0 (x0 : Int) (μ : Mem) : Rz := GF 4 6 x0 μ fun t101 => if t101 = 0 then (PZ 4 6 x0 1 μ fun u102 => KD 4 x0 u102 (CL (FX4_advance x0 u102) fun _ u104 => KD 4 x0 u104 (CL (FX4_takeNumber x0 1 4 u104) fun t105 u106 => if ¬ t105 = 0 then (GF 4 4 x0 u106 fun t107 => GF 4 10 x0 u106 fun t108 => PF 5 2 t107 t108 u106 fun u109 => RTZ 1 u109) else (RTZ 0 u106)))) else (KD 4 x0 μ (CL (FX4_fail x0 (-2) μ) fun t110 u111 => RTZ t110 u111))
def FX4_readLimit (a0 : Int) (μ : Mem) : Rz := BX4_readLimit_0 a0 μ
def BX0_init_0 (x0 x1 : Int) (μ : Mem) : Rz := if 0 < x0 then (PF 0 0 x0 x1 μ fun u101 => RT 0 u101) else none
def FX0_init (a0 a1 : Int) (μ : Mem) : Rz := BX0_init_0 a0 a1 μ
def BX4_addItem_32 (μ : Mem) : Rz := RT 0 μ
def BX4_addItem_0 (x0 x1 : Int) (μ : Mem) : Rz := GF 4 12 x0 μ fun t101 => GF 4 11 x0 μ fun t102 => LN 1 t102 μ fun t103 => if t103 ≤ t101 then (BX4_addItem_32 μ) else (GF 4 11 x0 μ fun t104 => GF 4 12 x0 μ fun t105 => AS 1 t104 t105 x1 μ fun u106 => GF 4 12 x0 u106 fun t107 => PF 4 12 x0 (w32 (t107 + 1)) u106 fun u108 => BX4_addItem_32 u108)
def FX4_addItem (a0 a1 : Int) (μ : Mem) : Rz := BX4_addItem_0 a0 a1 μ
def BX4_variableHere_50 (s0 : Int) (μ : Mem) : Rz := RT s0 μ
def BX4_variableHere_0 (x0 : Int) (μ : Mem) : Rz := KD 4 x0 μ (CL (FX4_isWord x0 6 μ) fun t101 u102 => if t101 = 0 then (KD 4 x0 u102 (CL (FX4_isWord x0 7 u102) fun t103 u104 => if t103 = 0 then (KD 4 x0 u104 (CL (FX4_isWord x0 8 u104) fun t105 u106 => if t105 = 0 then (KD 4 x0 u106 (CL (FX4_isWord x0 2 u106) fun t107 u108 => if t107 = 0 then (BX4_variableHere_50 0 u108) else (BX4_variableHere_50 (-4) u108))) else (RT (-3) u106))) else (RT (-2) u104))) else (RT (-1) u102))
def FX4_variableHere (a0 : Int) (μ : Mem) : Rz := BX4_variableHere_0 a0 μ
def BX4_readFactor_49 (rc : Int → Int → Mem → Rz) (s0 : Int) (μ : Mem) : Rz := RTZ s0 μ
def BX4_readFactor_48 (rc : Int → Int → Mem → Rz) (μ : Mem) : Rz := BX4_readFactor_49 rc 0 μ
def BX4_readFactor_0 (rc : Int → Int → Mem → Rz) (x0 x1 : Int) (μ : Mem) : Rz := KD 4 x0 μ (CL (FX4_isSign x0 40 μ) fun t101 u102 => if t101 = 0 then (GF 4 7 x0 u102 fun t103 => if ¬ t103 = 1 then (KD 4 x0 u102 (CL (FX4_variableHere x0 u102) fun t104 u105 => if ¬ t104 = 0 then (KD 4 x0 u105 (CL (FX4_addItem x0 t104 u105) fun _ u107 => KD 4 x0 u107 (CL (FX4_advance x0 u107) fun _ u109 => RTZ 1 u109))) else (KD 4 x0 u105 (CL (FX4_fail x0 (-2) u105) fun t110 u111 => RTZ t110 u111)))) else (KD 4 x0 u102 (CL (FX4_takeNumber x0 0 9999 u102) fun t112 u113 => if ¬ t112 = 0 then (GF 4 10 x0 u113 fun t114 => KD 4 x0 u113 (CL (FX4_addItem x0 t114 u113) fun _ u116 => RTZ 1 u116)) else (RTZ 0 u113)))) else (if x1 < 4 then (KD 4 x0 u102 (CL (FX4_advance x0 u102) fun _ u118 => KD 4 x0 u118 (CL (rc x0 (w32 (x1 + 1)) u118) fun t119 u120 => if t119 = 0 then (BX4_readFactor_48 rc u120) else (KD 4 x0 u120 (CL (FX4_takeSign x0 41 u120) fun t121 u122 => if t121 = 0 then (BX4_readFactor_48 rc u122) else (BX4_readFactor_49 rc 1 u122)))))) else (KD 4 x0 u102 (CL (FX4_fail x0 (-6) u102) fun t123 u124 => RTZ t123 u124))))
def FX4_readFactor (rc : Int → Int → Mem → Rz) (a0 a1 : Int) (μ : Mem) : Rz := BX4_readFactor_0 rc a0 a1 μ
def BX4_readTerm_80 (rc : Int → Int → Mem → Rz) (μ : Mem) : Rz := RTZ 1 μ
def BX4_readTerm_54 (rc : Int → Int → Mem → Rz) (k12 : Int → Int → Int → Mem → Rz) (x0 x1 x2 s0 : Int) (μ : Mem) : Rz := KD 4 x0 μ (CL (FX4_advance x0 μ) fun _ u102 => KD 4 x0 u102 (CL (FX4_readFactor rc x0 x1 u102) fun t103 u104 => if ¬ t103 = 0 then (KD 4 x0 u104 (CL (FX4_addItem x0 s0 u104) fun _ u106 => k12 x0 x1 (w32 (x2 + 1)) u106)) else (RTZ 0 u104)))
def BX4_readTerm_38 (rc : Int → Int → Mem → Rz) (k12 : Int → Int → Int → Mem → Rz) (x0 x1 x2 : Int) (μ : Mem) : Rz := KD 4 x0 μ (CL (FX4_isSign x0 42 μ) fun t101 u102 => if t101 = 0 then (BX4_readTerm_54 rc k12 x0 x1 x2 (-8) u102) else (BX4_readTerm_54 rc k12 x0 x1 x2 (-7) u102))
def BX4_readTerm_12 (rc : Int → Int → Mem → Rz) (k12 : Int → Int → Int → Mem → Rz) (x0 x1 x2 : Int) (μ : Mem) : Rz := GF 4 3 x0 μ fun t101 => if t101 ≤ x2 then (BX4_readTerm_80 rc μ) else (KD 4 x0 μ (CL (FX4_isSign x0 42 μ) fun t102 u103 => if ¬ t102 = 0 then (BX4_readTerm_38 rc k12 x0 x1 x2 u103) else (KD 4 x0 u103 (CL (FX4_isSign x0 47 u103) fun t104 u105 => if t104 = 0 then (BX4_readTerm_80 rc u105) else (BX4_readTerm_38 rc k12 x0 x1 x2 u105)))))
def LX4_readTerm_12 (rc : Int → Int → Mem → Rz) : Nat → Int → Int → Int → Mem → Rz
  | 0, _, _, _, _ => none
  | n + 1, x0, x1, x2, μ => BX4_readTerm_12 rc (fun y0 y1 y2 ν => LX4_readTerm_12 rc n y0 y1 y2 ν) x0 x1 x2 μ
def BX4_readTerm_0 (rc : Int → Int → Mem → Rz) (x0 x1 : Int) (μ : Mem) : Rz := KD 4 x0 μ (CL (FX4_readFactor rc x0 x1 μ) fun t101 u102 => if ¬ t101 = 0 then (LX4_readTerm_12 rc FU x0 x1 0 u102) else (RTZ 0 u102))
def FX4_readTerm (rc : Int → Int → Mem → Rz) (a0 a1 : Int) (μ : Mem) : Rz := BX4_readTerm_0 rc a0 a1 μ
def BX4_readSum_80 (rc : Int → Int → Mem → Rz) (μ : Mem) : Rz := RTZ 1 μ
def BX4_readSum_54 (rc : Int → Int → Mem → Rz) (k12 : Int → Int → Int → Mem → Rz) (x0 x1 x2 s0 : Int) (μ : Mem) : Rz := KD 4 x0 μ (CL (FX4_advance x0 μ) fun _ u102 => KD 4 x0 u102 (CL (FX4_readTerm rc x0 x1 u102) fun t103 u104 => if ¬ t103 = 0 then (KD 4 x0 u104 (CL (FX4_addItem x0 s0 u104) fun _ u106 => k12 x0 x1 (w32 (x2 + 1)) u106)) else (RTZ 0 u104)))
def BX4_readSum_38 (rc : Int → Int → Mem → Rz) (k12 : Int → Int → Int → Mem → Rz) (x0 x1 x2 : Int) (μ : Mem) : Rz := KD 4 x0 μ (CL (FX4_isSign x0 43 μ) fun t101 u102 => if t101 = 0 then (BX4_readSum_54 rc k12 x0 x1 x2 (-6) u102) else (BX4_readSum_54 rc k12 x0 x1 x2 (-5) u102))
def BX4_readSum_12 (rc : Int → Int → Mem → Rz) (k12 : Int → Int → Int → Mem → Rz) (x0 x1 x2 : Int) (μ : Mem) : Rz := GF 4 3 x0 μ fun t101 => if t101 ≤ x2 then (BX4_readSum_80 rc μ) else (KD 4 x0 μ (CL (FX4_isSign x0 43 μ) fun t102 u103 => if ¬ t102 = 0 then (BX4_readSum_38 rc k12 x0 x1 x2 u103) else (KD 4 x0 u103 (CL (FX4_isSign x0 45 u103) fun t104 u105 => if t104 = 0 then (BX4_readSum_80 rc u105) else (BX4_readSum_38 rc k12 x0 x1 x2 u105)))))
def LX4_readSum_12 (rc : Int → Int → Mem → Rz) : Nat → Int → Int → Int → Mem → Rz
  | 0, _, _, _, _ => none
  | n + 1, x0, x1, x2, μ => BX4_readSum_12 rc (fun y0 y1 y2 ν => LX4_readSum_12 rc n y0 y1 y2 ν) x0 x1 x2 μ
def BX4_readSum_0 (rc : Int → Int → Mem → Rz) (x0 x1 : Int) (μ : Mem) : Rz := KD 4 x0 μ (CL (FX4_readTerm rc x0 x1 μ) fun t101 u102 => if ¬ t101 = 0 then (LX4_readSum_12 rc FU x0 x1 0 u102) else (RTZ 0 u102))
def FX4_readSum (rc : Int → Int → Mem → Rz) (a0 a1 : Int) (μ : Mem) : Rz := BX4_readSum_0 rc a0 a1 μ
def RX4_readSum : Nat → Int → Int → Mem → Rz
  | 0, _, _, _ => none
  | n + 1, a0, a1, μ => FX4_readSum (fun b0 b1 ν => RX4_readSum n b0 b1 ν) a0 a1 μ
def TX4_readSum (a0 a1 : Int) (μ : Mem) : Rz := RX4_readSum 7 a0 a1 μ
def BX4_shapeHere_47 (s0 : Int) (μ : Mem) : Rz := RT s0 μ
def BX4_shapeHere_0 (x0 : Int) (μ : Mem) : Rz := KD 4 x0 μ (CL (FX4_isWord x0 9 μ) fun t101 u102 => if t101 = 0 then (KD 4 x0 u102 (CL (FX4_isWord x0 10 u102) fun t103 u104 => if t103 = 0 then (KD 4 x0 u104 (CL (FX4_isWord x0 11 u104) fun t105 u106 => if t105 = 0 then (KD 4 x0 u106 (CL (FX4_isWord x0 12 u106) fun t107 u108 => if t107 = 0 then (BX4_shapeHere_47 (-1) u108) else (BX4_shapeHere_47 3 u108))) else (RT 2 u106))) else (RT 1 u104))) else (RT 0 u102))
def FX4_shapeHere (a0 : Int) (μ : Mem) : Rz := BX4_shapeHere_0 a0 μ
def BX5_addPlate_0 (x0 x1 x3 x4 x5 x6 : Int) (μ : Mem) : Rz := GF 5 3 x0 μ fun t101 => if t101 < 4 then (GF 5 4 x0 μ fun t102 => GF 5 3 x0 μ fun t103 => AL 5 t102 t103 μ fun t104 => PF 1 0 t104 x1 μ fun u105 => PF 1 1 t104 x3 u105 fun u106 => PF 1 2 t104 x4 u106 fun u107 => PF 1 3 t104 x5 u107 fun u108 => PF 1 4 t104 0 u108 fun u109 => PF 1 5 t104 0 u109 fun u110 => PF 1 6 t104 1000 u110 fun u111 => PF 1 7 t104 x6 u111 fun u112 => GF 5 3 x0 u112 fun t113 => PF 5 3 x0 (w32 (t113 + 1)) u112 fun u114 => RT 0 u114) else (RT 0 μ)
def FX5_addPlate (a0 a1 a3 a4 a5 a6 : Int) (μ : Mem) : Rz := BX5_addPlate_0 a0 a1 a3 a4 a5 a6 μ
def BX4_readPlate_183 (x0 x1 x3 x4 x5 x6 : Int) (μ : Mem) : Rz := GF 4 4 x0 μ fun t101 => KD 5 t101 μ (CL (FX5_addPlate t101 x1 x3 x4 x5 x6 μ) fun _ u103 => RTZ 1 u103)
def BX4_readPlate_95 (x0 x1 x3 s0 s1 : Int) (μ : Mem) : Rz := KD 4 s1 μ (CL (FX4_takeNumber s1 s0 3 μ) fun t101 u102 => if ¬ t101 = 0 then (GF 4 10 x0 u102 fun t103 => KD 4 x0 u102 (CL (FX4_shapeHere x0 u102) fun t104 u105 => if 0 ≤ t104 then (KD 4 x0 u105 (CL (FX4_advance x0 u105) fun _ u107 => NU u107 (KD 4 x0 u107 (CL (FX4_isWord x0 5 u107) fun t108 u109 => if t108 = 0 then (BX4_readPlate_183 x0 x1 x3 t103 t104 0 u109) else (KD 4 x0 u109 (CL (FX4_advance x0 u109) fun _ u111 => PF 4 12 x0 0 u111 fun u112 => KD 4 x0 u112 (CL (TX4_readSum x0 0 u112) fun t113 u114 => if ¬ t113 = 0 then (NW 0 1 u114 fun t115 u116 => GF 4 11 x0 u116 fun t117 => GF 4 12 x0 u116 fun t118 => CL (FJ7_copyOf_59c91 t117 t118 u116) fun t119 u120 => KD 0 t115 u120 (CL (FX0_init t115 t119 u120) fun _ u122 => BX4_readPlate_183 x0 x1 x3 t103 t104 t115 u122)) else (RTZ 0 u114)))))))) else (KD 4 x0 u105 (CL (FX4_fail x0 (-2) u105) fun t123 u124 => RTZ t123 u124)))) else (RTZ 0 u102))
def BX4_readPlate_0 (x0 : Int) (μ : Mem) : Rz := GF 4 4 x0 μ fun t101 => GF 5 3 t101 μ fun t102 => if t102 < 4 then (KD 4 x0 μ (CL (FX4_advance x0 μ) fun _ u104 => KD 4 x0 u104 (CL (FX4_isName x0 u104) fun t105 u106 => if ¬ t105 = 0 then (GF 4 2 x0 u106 fun t107 => GF 4 8 x0 u106 fun t108 => GF 4 9 x0 u106 fun t109 => CL (FX6_packedName t107 t108 t109 u106) fun t110 u111 => GF 4 4 x0 u111 fun t112 => KD 5 t112 u111 (CL (FX5_indexOfName t112 t110 u111) fun t113 u114 => if t113 < 0 then (KD 4 x0 u114 (CL (FX4_advance x0 u114) fun _ u116 => KD 4 x0 u116 (CL (FX4_takeNumber x0 0 3 u116) fun t117 u118 => if ¬ t117 = 0 then (GF 4 10 x0 u118 fun t119 => if ¬ t119 = 0 then (BX4_readPlate_95 x0 t110 t119 0 x0 u118) else (BX4_readPlate_95 x0 t110 t119 1 x0 u118)) else (RTZ 0 u118)))) else (KD 4 x0 u114 (CL (FX4_fail x0 (-4) u114) fun t120 u121 => RTZ t120 u121)))) else (RTZ 0 u106)))) else (KD 4 x0 μ (CL (FX4_fail x0 (-5) μ) fun t122 u123 => RTZ t122 u123))
def FX4_readPlate (a0 : Int) (μ : Mem) : Rz := BX4_readPlate_0 a0 μ
def BX4_readTones_79 (k25 : Int → Int → Mem → Rz) (k79 : Int → Int → Int → Mem → Rz) (x0 x1 x2 : Int) (μ : Mem) : Rz := GF 4 4 x0 μ fun t101 => GF 5 0 t101 μ fun t102 => if t102 ≤ x2 then (KD 4 x0 μ (CL (FX4_advance x0 μ) fun _ u104 => k25 x0 (w32 (x1 + 1)) u104)) else (GF 4 4 x0 μ fun t105 => GF 5 5 t105 μ fun t106 => GF 4 4 x0 μ fun t107 => KD 5 t107 μ (CL (FX5_indexOfCell t107 x2 x1 μ) fun t108 u109 => GF 4 2 x0 u109 fun t110 => GF 4 8 x0 u109 fun t111 => AL 0 t110 (w32 (t111 + x2)) u109 fun t112 => AS 1 t106 t108 (w32 ((w32 (t112 - 48)) * 11)) u109 fun u113 => k79 x0 x1 (w32 (x2 + 1)) u113))
def LX4_readTones_79 (k25 : Int → Int → Mem → Rz) : Nat → Int → Int → Int → Mem → Rz
  | 0, _, _, _, _ => none
  | n + 1, x0, x1, x2, μ => BX4_readTones_79 k25 (fun y0 y1 y2 ν => LX4_readTones_79 k25 n y0 y1 y2 ν) x0 x1 x2 μ
def BX4_readTones_25 (k25 : Int → Int → Mem → Rz) (x0 x1 : Int) (μ : Mem) : Rz := GF 4 4 x0 μ fun t101 => GF 5 1 t101 μ fun t102 => if t102 ≤ x1 then (RTZ 1 μ) else (GF 4 7 x0 μ fun t103 => if t103 = 1 then (GF 4 9 x0 μ fun t104 => GF 4 8 x0 μ fun t105 => GF 4 4 x0 μ fun t106 => GF 5 0 t106 μ fun t107 => if w32 (t104 - t105) = t107 then (LX4_readTones_79 k25 FU x0 x1 0 μ) else (KD 4 x0 μ (CL (FX4_fail x0 (-3) μ) fun t108 u109 => RTZ t108 u109))) else (KD 4 x0 μ (CL (FX4_fail x0 (-2) μ) fun t110 u111 => RTZ t110 u111)))
def LX4_readTones_25 : Nat → Int → Int → Mem → Rz
  | 0, _, _, _ => none
  | n + 1, x0, x1, μ => BX4_readTones_25 (fun y0 y1 ν => LX4_readTones_25 n y0 y1 ν) x0 x1 μ
def BX4_readTones_0 (x0 : Int) (μ : Mem) : Rz := GF 4 5 x0 μ fun t101 => if t101 = 0 then (PZ 4 5 x0 1 μ fun u102 => KD 4 x0 u102 (CL (FX4_advance x0 u102) fun _ u104 => LX4_readTones_25 FU x0 0 u104)) else (KD 4 x0 μ (CL (FX4_fail x0 (-2) μ) fun t105 u106 => RTZ t105 u106))
def FX4_readTones (a0 : Int) (μ : Mem) : Rz := BX4_readTones_0 a0 μ
def BX4_readStatement_0 (x0 : Int) (μ : Mem) : Rz := KD 4 x0 μ (CL (FX4_isWord x0 1 μ) fun t101 u102 => if t101 = 0 then (KD 4 x0 u102 (CL (FX4_isWord x0 2 u102) fun t103 u104 => if t103 = 0 then (KD 4 x0 u104 (CL (FX4_isWord x0 3 u104) fun t105 u106 => if t105 = 0 then (KD 4 x0 u106 (CL (FX4_isWord x0 4 u106) fun t107 u108 => if t107 = 0 then (KD 4 x0 u108 (CL (FX4_fail x0 (-2) u108) fun t109 u110 => RTZ t109 u110)) else (KD 4 x0 u108 (CL (FX4_readLimit x0 u108) fun t111 u112 => RTZ t111 u112)))) else (KD 4 x0 u106 (CL (FX4_readInk x0 u106) fun t113 u114 => RTZ t113 u114)))) else (KD 4 x0 u104 (CL (FX4_readPlate x0 u104) fun t115 u116 => RTZ t115 u116)))) else (KD 4 x0 u102 (CL (FX4_readTones x0 u102) fun t117 u118 => RTZ t117 u118)))
def FX4_readStatement (a0 : Int) (μ : Mem) : Rz := BX4_readStatement_0 a0 μ
def BX4_read_101 (μ : Mem) : Rz := RTZ 1 μ
def BX4_read_93 (μ : Mem) : Rz := RTZ 0 μ
def BX4_read_61 (k61 : Int → Int → Mem → Rz) (x0 x4 : Int) (μ : Mem) : Rz := GF 4 3 x0 μ fun t101 => if t101 ≤ x4 then (BX4_read_101 μ) else (GF 4 7 x0 μ fun t102 => if t102 = 0 then (BX4_read_101 μ) else (KD 4 x0 μ (CL (FX4_readStatement x0 μ) fun t103 u104 => if t103 = 0 then (BX4_read_93 u104) else (KD 4 x0 u104 (CL (FX4_takeSign x0 59 u104) fun t105 u106 => if ¬ t105 = 0 then (k61 x0 (w32 (x4 + 1)) u106) else (BX4_read_93 u106))))))
def LX4_read_61 : Nat → Int → Int → Mem → Rz
  | 0, _, _, _ => none
  | n + 1, x0, x4, μ => BX4_read_61 (fun y0 y4 ν => LX4_read_61 n y0 y4 ν) x0 x4 μ
def BX4_read_0 (x0 x1 x2 x3 : Int) (μ : Mem) : Rz := PF 4 2 x0 x1 μ fun u101 => LN 0 x1 u101 fun t102 => CL (FJ9_min_7cf53 x2 t102 u101) fun t103 u104 => PF 4 3 x0 t103 u104 fun u105 => PF 4 4 x0 x3 u105 fun u106 => PF 4 0 x0 0 u106 fun u107 => PF 4 1 x0 (-1) u107 fun u108 => PZ 4 5 x0 0 u108 fun u109 => PZ 4 6 x0 0 u109 fun u110 => PF 4 9 x0 0 u110 fun u111 => KD 4 x0 u111 (CL (FX4_advance x0 u111) fun _ u113 => KD 4 x0 u113 (CL (FX4_readPicture x0 u113) fun t114 u115 => if ¬ t114 = 0 then (LX4_read_61 FU x0 0 u115) else (RTZ 0 u115)))
def FX4_read (a0 a1 a2 a3 : Int) (μ : Mem) : Rz := BX4_read_0 a0 a1 a2 a3 μ
def BX6_load_0 (x0 x1 : Int) (μ : Mem) : Rz := KD 6 x0 μ (CL (FX6_requireBuffered x0 x1 μ) fun _ u102 => PF 6 1 x0 0 u102 fun u103 => GF 6 8 x0 u103 fun t104 => GF 6 0 x0 u103 fun t105 => KD 6 x0 u103 (CL (FX6_draftSheet x0 u103) fun t106 u107 => KD 4 t104 u107 (CL (FX4_read t104 t105 x1 t106 u107) fun t108 u109 => GF 6 8 x0 u109 fun t110 => GF 4 1 t110 u109 fun t111 => PF 6 2 x0 t111 u109 fun u112 => if ¬ t108 = 0 then (KD 6 x0 u112 (CL (FX6_useDraft x0 u112) fun _ u114 => GF 6 7 x0 u114 fun t115 => KD 2 t115 u114 (CL (FX2_forgetTones t115 u114) fun _ u117 => GF 6 6 x0 u117 fun t118 => GF 5 3 t118 u117 fun t119 => RT t119 u117))) else (GF 6 8 x0 u112 fun t120 => GF 4 0 t120 u112 fun t121 => RT t121 u112))))
def FX6_load (a0 a1 : Int) (μ : Mem) : Rz := BX6_load_0 a0 a1 μ
def BX6_moire_0 (x0 x1 x2 : Int) (μ : Mem) : Rz := KD 6 x0 μ (CL (FX6_requirePlate x0 x1 μ) fun _ u102 => KD 6 x0 u102 (CL (FX6_requirePlate x0 x2 u102) fun _ u104 => GF 6 6 x0 u104 fun t105 => GF 5 4 t105 u104 fun t106 => AL 5 t106 x2 u104 fun t107 => GF 6 6 x0 u104 fun t108 => GF 5 4 t108 u104 fun t109 => AL 5 t109 x1 u104 fun t110 => GF 1 1 t110 u104 fun t111 => GF 6 6 x0 u104 fun t112 => GF 5 4 t112 u104 fun t113 => AL 5 t113 x1 u104 fun t114 => GF 1 2 t114 u104 fun t115 => CL (FX6_moireWith t107 t111 t115 u104) fun t116 u117 => RT t116 u117))
def FX6_moire (a0 a1 a2 : Int) (μ : Mem) : Rz := BX6_moire_0 a0 a1 a2 μ
def BX2_offOf_68 (k18 : Int → Int → Int → Int → Int → Int → Int → Int → Mem → Rz) (k31 : Int → Int → Int → Int → Int → Int → Int → Int → Int → Mem → Rz) (x0 x1 x2 x3 x4 x5 x7 x8 x9 s0 s1 : Int) (μ : Mem) : Rz := GF 2 0 x0 μ fun t101 => AL 7 t101 x2 μ fun t102 => AL 1 t102 x9 μ fun t103 => LT (w32 (s1 + (w32 (s0 - t103)))) fun x104 => k31 x0 x1 x2 x3 x4 x5 x104 x7 (w32 (x8 + 1)) μ
def BX2_offOf_31 (k18 : Int → Int → Int → Int → Int → Int → Int → Int → Mem → Rz) (k31 : Int → Int → Int → Int → Int → Int → Int → Int → Int → Mem → Rz) (x0 x1 x2 x3 x4 x5 x6 x7 x8 : Int) (μ : Mem) : Rz := if w32 (x3 + x5) ≤ x8 then (k18 x0 x1 x2 x3 x4 x5 x6 (w32 (x7 + 1)) μ) else (KD 5 x1 μ (CL (FX5_indexOfCell x1 x8 x7 μ) fun t101 u102 => KD 2 x0 u102 (CL (FX2_hasDot x0 x2 t101 u102) fun t103 u104 => if t103 = 0 then (BX2_offOf_68 k18 k31 x0 x1 x2 x3 x4 x5 x7 x8 t101 0 x6 u104) else (BX2_offOf_68 k18 k31 x0 x1 x2 x3 x4 x5 x7 x8 t101 100 x6 u104))))
def LX2_offOf_31 (k18 : Int → Int → Int → Int → Int → Int → Int → Int → Mem → Rz) : Nat → Int → Int → Int → Int → Int → Int → Int → Int → Int → Mem → Rz
  | 0, _, _, _, _, _, _, _, _, _, _ => none
  | n + 1, x0, x1, x2, x3, x4, x5, x6, x7, x8, μ => BX2_offOf_31 k18 (fun y0 y1 y2 y3 y4 y5 y6 y7 y8 ν => LX2_offOf_31 k18 n y0 y1 y2 y3 y4 y5 y6 y7 y8 ν) x0 x1 x2 x3 x4 x5 x6 x7 x8 μ
def BX2_offOf_18 (k18 : Int → Int → Int → Int → Int → Int → Int → Int → Mem → Rz) (x0 x1 x2 x3 x4 x5 x6 x7 : Int) (μ : Mem) : Rz := if w32 (x4 + x5) ≤ x7 then (RT x6 μ) else (LX2_offOf_31 k18 FU x0 x1 x2 x3 x4 x5 x6 x7 x3 μ)
def LX2_offOf_18 : Nat → Int → Int → Int → Int → Int → Int → Int → Int → Mem → Rz
  | 0, _, _, _, _, _, _, _, _, _ => none
  | n + 1, x0, x1, x2, x3, x4, x5, x6, x7, μ => BX2_offOf_18 (fun y0 y1 y2 y3 y4 y5 y6 y7 ν => LX2_offOf_18 n y0 y1 y2 y3 y4 y5 y6 y7 ν) x0 x1 x2 x3 x4 x5 x6 x7 μ
def BX2_offOf_0 (x0 x1 x2 x3 x4 : Int) (μ : Mem) : Rz := GF 5 4 x1 μ fun t101 => AL 5 t101 x2 μ fun t102 => KD 1 t102 μ (CL (FX1_p t102 μ) fun t103 u104 => LX2_offOf_18 FU x0 x1 x2 x3 x4 t103 0 x4 u104)
def FX2_offOf (a0 a1 a2 a3 a4 : Int) (μ : Mem) : Rz := BX2_offOf_0 a0 a1 a2 a3 a4 μ
def BX6_blocksAlong_12 (s0 : Int) (μ : Mem) : Rz := RT s0 μ
def BX6_blocksAlong_0 (x0 x1 : Int) (μ : Mem) : Rz := if 1 ≤ x1 then (DV x0 x1 fun t101 => BX6_blocksAlong_12 t101 μ) else (BX6_blocksAlong_12 0 μ)
def FX6_blocksAlong (a0 a1 : Int) (μ : Mem) : Rz := BX6_blocksAlong_0 a0 a1 μ
def BX6_off_63 (μ : Mem) : Rz := TH 4 μ
def BX6_off_0 (x0 x1 x2 : Int) (μ : Mem) : Rz := KD 6 x0 μ (CL (FX6_requirePlate x0 x1 μ) fun _ u102 => GF 6 6 x0 u102 fun t103 => GF 5 4 t103 u102 fun t104 => AL 5 t104 x1 u102 fun t105 => KD 1 t105 u102 (CL (FX1_p t105 u102) fun t106 u107 => GF 6 6 x0 u107 fun t108 => GF 5 0 t108 u107 fun t109 => CL (FX6_blocksAlong t109 t106 u107) fun t110 u111 => GF 6 6 x0 u111 fun t112 => GF 5 1 t112 u111 fun t113 => CL (FX6_blocksAlong t113 t106 u111) fun t114 u115 => LT (w32 (t110 * t114)) fun x116 => if x2 < 0 then (BX6_off_63 u115) else (if x116 ≤ x2 then (BX6_off_63 u115) else (if 1 ≤ t110 then (GF 6 7 x0 u115 fun t117 => GF 6 6 x0 u115 fun t118 => KD 2 t117 u115 (CL (FX2_update t117 t118 u115) fun _ u120 => GF 6 7 x0 u120 fun t121 => GF 6 6 x0 u120 fun t122 => RM x2 t110 fun t123 => DV x2 t110 fun t124 => KD 2 t121 u120 (CL (FX2_offOf t121 t122 x1 (w32 (t123 * t106)) (w32 (t124 * t106)) u120) fun t125 u126 => RT t125 u126))) else (BX6_off_63 u115)))))
def FX6_off (a0 a1 a2 : Int) (μ : Mem) : Rz := BX6_off_0 a0 a1 a2 μ
def BX2_dotsOfAll_4 (k4 : Int → Int → Int → Int → Mem → Rz) (x0 x1 x2 x3 : Int) (μ : Mem) : Rz := GF 5 3 x1 μ fun t101 => if t101 ≤ x3 then (RT x2 μ) else (GF 2 2 x0 μ fun t102 => AL 1 t102 x3 μ fun t103 => LT (w32 (x2 + t103)) fun x104 => k4 x0 x1 x104 (w32 (x3 + 1)) μ)
def LX2_dotsOfAll_4 : Nat → Int → Int → Int → Int → Mem → Rz
  | 0, _, _, _, _, _ => none
  | n + 1, x0, x1, x2, x3, μ => BX2_dotsOfAll_4 (fun y0 y1 y2 y3 ν => LX2_dotsOfAll_4 n y0 y1 y2 y3 ν) x0 x1 x2 x3 μ
def BX2_dotsOfAll_0 (x0 x1 : Int) (μ : Mem) : Rz := LX2_dotsOfAll_4 FU x0 x1 0 0 μ
def FX2_dotsOfAll (a0 a1 : Int) (μ : Mem) : Rz := BX2_dotsOfAll_0 a0 a1 μ
def BX6_paint_44 (μ : Mem) : Rz := TH 2 μ
def BX6_paint_66 (μ : Mem) : Rz := TH 2 μ
def BX6_paint_95 (k83 : Int → Int → Int → Int → Int → Int → Int → Mem → Rz) (k95 : Int → Int → Int → Int → Int → Int → Int → Int → Mem → Rz) (x0 x1 x2 x3 x4 x5 x6 x7 : Int) (μ : Mem) : Rz := if w32 (x1 + x3) ≤ x7 then (k83 x0 x1 x2 x3 x4 x5 (w32 (x6 + 1)) μ) else (GF 6 6 x0 μ fun t101 => GF 5 5 t101 μ fun t102 => GF 6 6 x0 μ fun t103 => KD 5 t103 μ (CL (FX5_indexOfCell t103 x7 x6 μ) fun t104 u105 => AS 1 t102 t104 x5 u105 fun u106 => k95 x0 x1 x2 x3 x4 x5 x6 (w32 (x7 + 1)) u106))
def LX6_paint_95 (k83 : Int → Int → Int → Int → Int → Int → Int → Mem → Rz) : Nat → Int → Int → Int → Int → Int → Int → Int → Int → Mem → Rz
  | 0, _, _, _, _, _, _, _, _, _ => none
  | n + 1, x0, x1, x2, x3, x4, x5, x6, x7, μ => BX6_paint_95 k83 (fun y0 y1 y2 y3 y4 y5 y6 y7 ν => LX6_paint_95 k83 n y0 y1 y2 y3 y4 y5 y6 y7 ν) x0 x1 x2 x3 x4 x5 x6 x7 μ
def BX6_paint_83 (k83 : Int → Int → Int → Int → Int → Int → Int → Mem → Rz) (x0 x1 x2 x3 x4 x5 x6 : Int) (μ : Mem) : Rz := if w32 (x2 + x4) ≤ x6 then (GF 6 7 x0 μ fun t101 => KD 2 t101 μ (CL (FX2_forgetTones t101 μ) fun _ u103 => GF 6 7 x0 u103 fun t104 => GF 6 6 x0 u103 fun t105 => KD 2 t104 u103 (CL (FX2_update t104 t105 u103) fun _ u107 => GF 6 7 x0 u107 fun t108 => GF 6 6 x0 u107 fun t109 => KD 2 t108 u107 (CL (FX2_dotsOfAll t108 t109 u107) fun t110 u111 => RT t110 u111)))) else (LX6_paint_95 k83 FU x0 x1 x2 x3 x4 x5 x6 x1 μ)
def LX6_paint_83 : Nat → Int → Int → Int → Int → Int → Int → Int → Mem → Rz
  | 0, _, _, _, _, _, _, _, _ => none
  | n + 1, x0, x1, x2, x3, x4, x5, x6, μ => BX6_paint_83 (fun y0 y1 y2 y3 y4 y5 y6 ν => LX6_paint_83 n y0 y1 y2 y3 y4 y5 y6 ν) x0 x1 x2 x3 x4 x5 x6 μ
def BX6_paint_0 (x0 x1 x2 x3 x4 x5 : Int) (μ : Mem) : Rz := KD 6 x0 μ (CL (FX6_requireCell x0 x1 x2 μ) fun _ u102 => if x3 < 1 then (BX6_paint_44 u102) else (if x4 < 1 then (BX6_paint_44 u102) else (GF 6 6 x0 u102 fun t103 => GF 5 0 t103 u102 fun t104 => if w32 (t104 - x1) < x3 then (BX6_paint_44 u102) else (GF 6 6 x0 u102 fun t105 => GF 5 1 t105 u102 fun t106 => if x4 ≤ w32 (t106 - x2) then (if x5 < 0 then (BX6_paint_66 u102) else (if x5 ≤ 100 then (KD 6 x0 u102 (CL (FX6_startChange x0 u102) fun _ u108 => LX6_paint_83 FU x0 x1 x2 x3 x4 x5 x2 u108)) else (BX6_paint_66 u102))) else (BX6_paint_44 u102)))))
def FX6_paint (a0 a1 a2 a3 a4 a5 : Int) (μ : Mem) : Rz := BX6_paint_0 a0 a1 a2 a3 a4 a5 μ
def BX2_spotsOf_45 (k5 : Int → Int → Int → Int → Int → Mem → Rz) (k17 : Int → Int → Int → Int → Int → Int → Mem → Rz) (x0 x1 x2 x4 x5 s0 s1 : Int) (μ : Mem) : Rz := LT (w32 (s1 + s0)) fun x101 => k17 x0 x1 x2 x101 x4 (w32 (x5 + 1)) μ
def BX2_spotsOf_17 (k5 : Int → Int → Int → Int → Int → Mem → Rz) (k17 : Int → Int → Int → Int → Int → Int → Mem → Rz) (x0 x1 x2 x3 x4 x5 : Int) (μ : Mem) : Rz := GF 5 0 x1 μ fun t101 => if t101 ≤ x5 then (k5 x0 x1 x2 x3 (w32 (x4 + 1)) μ) else (KD 2 x0 μ (CL (FX2_isSpot x0 x1 x2 x5 x4 μ) fun t102 u103 => if t102 = 0 then (BX2_spotsOf_45 k5 k17 x0 x1 x2 x4 x5 0 x3 u103) else (BX2_spotsOf_45 k5 k17 x0 x1 x2 x4 x5 1 x3 u103)))
def LX2_spotsOf_17 (k5 : Int → Int → Int → Int → Int → Mem → Rz) : Nat → Int → Int → Int → Int → Int → Int → Mem → Rz
  | 0, _, _, _, _, _, _, _ => none
  | n + 1, x0, x1, x2, x3, x4, x5, μ => BX2_spotsOf_17 k5 (fun y0 y1 y2 y3 y4 y5 ν => LX2_spotsOf_17 k5 n y0 y1 y2 y3 y4 y5 ν) x0 x1 x2 x3 x4 x5 μ
def BX2_spotsOf_5 (k5 : Int → Int → Int → Int → Int → Mem → Rz) (x0 x1 x2 x3 x4 : Int) (μ : Mem) : Rz := GF 5 1 x1 μ fun t101 => if t101 ≤ x4 then (RT x3 μ) else (LX2_spotsOf_17 k5 FU x0 x1 x2 x3 x4 0 μ)
def LX2_spotsOf_5 : Nat → Int → Int → Int → Int → Int → Mem → Rz
  | 0, _, _, _, _, _, _ => none
  | n + 1, x0, x1, x2, x3, x4, μ => BX2_spotsOf_5 (fun y0 y1 y2 y3 y4 ν => LX2_spotsOf_5 n y0 y1 y2 y3 y4 ν) x0 x1 x2 x3 x4 μ
def BX2_spotsOf_0 (x0 x1 x2 : Int) (μ : Mem) : Rz := LX2_spotsOf_5 FU x0 x1 x2 0 0 μ
def FX2_spotsOf (a0 a1 a2 : Int) (μ : Mem) : Rz := BX2_spotsOf_0 a0 a1 a2 μ
def BX6_sumOfTones_27 (x2 : Int) (μ : Mem) : Rz := RT x2 μ
def BX6_sumOfTones_4 (k4 : Int → Int → Int → Int → Mem → Rz) (x0 x1 x2 x3 : Int) (μ : Mem) : Rz := if x1 ≤ x3 then (BX6_sumOfTones_27 x2 μ) else (LN 1 x0 μ fun t101 => if t101 ≤ x3 then (BX6_sumOfTones_27 x2 μ) else (AL 1 x0 x3 μ fun t102 => LT (w32 (x2 + t102)) fun x103 => k4 x0 x1 x103 (w32 (x3 + 1)) μ))
def LX6_sumOfTones_4 : Nat → Int → Int → Int → Int → Mem → Rz
  | 0, _, _, _, _, _ => none
  | n + 1, x0, x1, x2, x3, μ => BX6_sumOfTones_4 (fun y0 y1 y2 y3 ν => LX6_sumOfTones_4 n y0 y1 y2 y3 ν) x0 x1 x2 x3 μ
def BX6_sumOfTones_0 (x0 x1 : Int) (μ : Mem) : Rz := LX6_sumOfTones_4 FU x0 x1 0 0 μ
def FX6_sumOfTones (a0 a1 : Int) (μ : Mem) : Rz := BX6_sumOfTones_0 a0 a1 μ
def BX6_plate_15 (μ : Mem) : Rz := TH 2 μ
def BX6_plate_0 (x0 x1 x2 : Int) (μ : Mem) : Rz := KD 6 x0 μ (CL (FX6_requirePlate x0 x1 μ) fun _ u102 => if x2 < 0 then (BX6_plate_15 u102) else (if x2 ≤ 10 then (GF 6 6 x0 u102 fun t103 => GF 5 4 t103 u102 fun t104 => AL 5 t104 x1 u102 fun t105 => GF 6 7 x0 u102 fun t106 => GF 6 6 x0 u102 fun t107 => KD 2 t106 u102 (CL (FX2_update t106 t107 u102) fun _ u109 => SW x2 0 [GF 1 1 t105 u109 fun t118 => RT t118 u109, GF 1 2 t105 u109 fun t119 => RT t119 u109, KD 1 t105 u109 (CL (FX1_p t105 u109) fun t120 u121 => RT t120 u121), GF 1 3 t105 u109 fun t122 => RT t122 u109, GF 1 4 t105 u109 fun t123 => RT t123 u109, GF 1 5 t105 u109 fun t124 => RT t124 u109, GF 1 6 t105 u109 fun t125 => RT t125 u109, GF 6 7 x0 u109 fun t126 => GF 2 2 t126 u109 fun t127 => AL 1 t127 x1 u109 fun t128 => RT t128 u109, GF 6 7 x0 u109 fun t129 => GF 6 6 x0 u109 fun t130 => KD 2 t129 u109 (CL (FX2_spotsOf t129 t130 x1 u109) fun t131 u132 => RT t131 u132), GF 6 6 x0 u109 fun t133 => GF 5 0 t133 u109 fun t134 => KD 1 t105 u109 (CL (FX1_p t105 u109) fun t135 u136 => CL (FX6_blocksAlong t134 t135 u136) fun t137 u138 => GF 6 6 x0 u138 fun t139 => GF 5 1 t139 u138 fun t140 => KD 1 t105 u138 (CL (FX1_p t105 u138) fun t141 u142 => CL (FX6_blocksAlong t140 t141 u142) fun t143 u144 => RT (w32 (t137 * t143)) u144))] (GF 6 7 x0 u109 fun t110 => GF 2 0 t110 u109 fun t111 => AL 7 t111 x1 u109 fun t112 => GF 6 6 x0 u109 fun t113 => KD 5 t113 u109 (CL (FX5_cells t113 u109) fun t114 u115 => CL (FX6_sumOfTones t112 t114 u115) fun t116 u117 => RT t116 u117)))) else (BX6_plate_15 u102)))
def FX6_plate (a0 a1 a2 : Int) (μ : Mem) : Rz := BX6_plate_0 a0 a1 a2 μ
def BX6_copies_72 (k15 : Int → Int → Int → Mem → Rz) (x0 x1 x2 : Int) (μ : Mem) : Rz := k15 x0 x1 (w32 (x2 + 1)) μ
def BX6_copies_71 (k15 : Int → Int → Int → Mem → Rz) (x0 x2 s0 : Int) (μ : Mem) : Rz := BX6_copies_72 k15 x0 s0 x2 μ
def BX6_copies_15 (k15 : Int → Int → Int → Mem → Rz) (x0 x1 x2 : Int) (μ : Mem) : Rz := GF 6 6 x0 μ fun t101 => GF 5 3 t101 μ fun t102 => if t102 ≤ x2 then (RT x1 μ) else (GF 6 7 x0 μ fun t103 => GF 2 2 t103 μ fun t104 => AL 1 t104 x2 μ fun t105 => if t105 ≤ 0 then (BX6_copies_72 k15 x0 x1 x2 μ) else (GF 6 6 x0 μ fun t106 => GF 5 4 t106 μ fun t107 => AL 5 t107 x2 μ fun t108 => GF 1 6 t108 μ fun t109 => DV t109 t105 fun t110 => if 0 ≤ x1 then (CL (FJ9_min_7cf53 x1 t110 μ) fun t111 u112 => BX6_copies_71 k15 x0 x2 t111 u112) else (BX6_copies_71 k15 x0 x2 t110 μ)))
def LX6_copies_15 : Nat → Int → Int → Int → Mem → Rz
  | 0, _, _, _, _ => none
  | n + 1, x0, x1, x2, μ => BX6_copies_15 (fun y0 y1 y2 ν => LX6_copies_15 n y0 y1 y2 ν) x0 x1 x2 μ
def BX6_copies_0 (x0 : Int) (μ : Mem) : Rz := GF 6 7 x0 μ fun t101 => GF 6 6 x0 μ fun t102 => KD 2 t101 μ (CL (FX2_update t101 t102 μ) fun _ u104 => LX6_copies_15 FU x0 (-1) 0 u104)
def FX6_copies (a0 : Int) (μ : Mem) : Rz := BX6_copies_0 a0 μ
def BX6_press_12 (μ : Mem) : Rz := TH 2 μ
def BX6_press_55 (k55 : Int → Int → Int → Mem → Rz) (x0 x3 x4 : Int) (μ : Mem) : Rz := GF 6 6 x0 μ fun t101 => GF 5 3 t101 μ fun t102 => if t102 ≤ x4 then (RT x3 μ) else (GF 6 6 x0 μ fun t103 => GF 5 4 t103 μ fun t104 => AL 5 t104 x4 μ fun t105 => GF 1 6 t105 μ fun t106 => GF 6 7 x0 μ fun t107 => GF 2 2 t107 μ fun t108 => AL 1 t108 x4 μ fun t109 => PF 1 6 t105 (w32 (t106 - (w32 (x3 * t109)))) μ fun u110 => k55 x0 x3 (w32 (x4 + 1)) u110)
def LX6_press_55 : Nat → Int → Int → Int → Mem → Rz
  | 0, _, _, _, _ => none
  | n + 1, x0, x3, x4, μ => BX6_press_55 (fun y0 y3 y4 ν => LX6_press_55 n y0 y3 y4 ν) x0 x3 x4 μ
def BX6_press_0 (x0 x1 : Int) (μ : Mem) : Rz := if x1 < 1 then (BX6_press_12 μ) else (if x1 ≤ 1000 then (KD 6 x0 μ (CL (FX6_copies x0 μ) fun t101 u102 => if 0 ≤ t101 then (CL (FJ9_min_7cf53 x1 t101 u102) fun t103 u104 => KD 6 x0 u104 (CL (FX6_startChange x0 u104) fun _ u106 => LX6_press_55 FU x0 t103 0 u106)) else (TH 3 u102))) else (BX6_press_12 μ))
def FX6_press (a0 a1 : Int) (μ : Mem) : Rz := BX6_press_0 a0 a1 μ
def BX6_shape_14 (μ : Mem) : Rz := TH 2 μ
def BX6_shape_0 (x0 x1 x2 : Int) (μ : Mem) : Rz := KD 6 x0 μ (CL (FX6_requirePlate x0 x1 μ) fun _ u102 => if x2 < 0 then (BX6_shape_14 u102) else (if x2 ≤ 3 then (KD 6 x0 u102 (CL (FX6_startChange x0 u102) fun _ u104 => GF 6 6 x0 u104 fun t105 => GF 5 4 t105 u104 fun t106 => AL 5 t106 x1 u104 fun t107 => GF 1 3 t107 u104 fun t108 => GF 6 6 x0 u104 fun t109 => GF 5 4 t109 u104 fun t110 => AL 5 t110 x1 u104 fun t111 => PF 1 3 t111 x2 u104 fun u112 => RT t108 u112)) else (BX6_shape_14 u102)))
def FX6_shape (a0 a1 a2 : Int) (μ : Mem) : Rz := BX6_shape_0 a0 a1 a2 μ
def BX6_shift_25 (μ : Mem) : Rz := TH 2 μ
def BX6_shift_0 (x0 x1 x2 x3 : Int) (μ : Mem) : Rz := KD 6 x0 μ (CL (FX6_requirePlate x0 x1 μ) fun _ u102 => if x2 < 0 then (BX6_shift_25 u102) else (if 17 < x2 then (BX6_shift_25 u102) else (if x3 < 0 then (BX6_shift_25 u102) else (if x3 ≤ 17 then (KD 6 x0 u102 (CL (FX6_startChange x0 u102) fun _ u104 => GF 6 6 x0 u104 fun t105 => GF 5 4 t105 u104 fun t106 => AL 5 t106 x1 u104 fun t107 => PF 1 4 t107 x2 u104 fun u108 => GF 6 6 x0 u108 fun t109 => GF 5 4 t109 u108 fun t110 => AL 5 t110 x1 u108 fun t111 => PF 1 5 t111 x3 u108 fun u112 => GF 6 7 x0 u112 fun t113 => GF 6 6 x0 u112 fun t114 => KD 2 t113 u112 (CL (FX2_update t113 t114 u112) fun _ u116 => GF 6 7 x0 u116 fun t117 => GF 6 6 x0 u116 fun t118 => KD 2 t117 u116 (CL (FX2_dotsOfAll t117 t118 u116) fun t119 u120 => RT t119 u120)))) else (BX6_shift_25 u102)))))
def FX6_shift (a0 a1 a2 a3 : Int) (μ : Mem) : Rz := BX6_shift_0 a0 a1 a2 a3 μ
def BX5_cleanedOfAll_4 (k4 : Int → Int → Int → Mem → Rz) (x0 x1 x2 : Int) (μ : Mem) : Rz := KD 5 x0 μ (CL (FX5_cells x0 μ) fun t101 u102 => if t101 ≤ x2 then (RT x1 u102) else (GF 5 6 x0 u102 fun t103 => AL 1 t103 x2 u102 fun t104 => CL (FJ6_bitCount_0f7a4 t104 u102) fun t105 u106 => LT (w32 (x1 + t105)) fun x107 => k4 x0 x107 (w32 (x2 + 1)) u106))
def LX5_cleanedOfAll_4 : Nat → Int → Int → Int → Mem → Rz
  | 0, _, _, _, _ => none
  | n + 1, x0, x1, x2, μ => BX5_cleanedOfAll_4 (fun y0 y1 y2 ν => LX5_cleanedOfAll_4 n y0 y1 y2 ν) x0 x1 x2 μ
def BX5_cleanedOfAll_0 (x0 : Int) (μ : Mem) : Rz := LX5_cleanedOfAll_4 FU x0 0 0 μ
def FX5_cleanedOfAll (a0 : Int) (μ : Mem) : Rz := BX5_cleanedOfAll_0 a0 μ
def BX6_state_10 (μ : Mem) : Rz := TH 2 μ
def BX6_state_169 (s0 : Int) (μ : Mem) : Rz := RT s0 μ
def BX6_state_0 (x0 x1 : Int) (μ : Mem) : Rz := if x1 < 0 then (BX6_state_10 μ) else (if x1 ≤ 8 then (GF 6 7 x0 μ fun t101 => GF 6 6 x0 μ fun t102 => KD 2 t101 μ (CL (FX2_update t101 t102 μ) fun _ u104 => SW x1 0 [GF 6 6 x0 u104 fun t108 => GF 5 0 t108 u104 fun t109 => RT t109 u104, GF 6 6 x0 u104 fun t110 => GF 5 1 t110 u104 fun t111 => RT t111 u104, GF 6 6 x0 u104 fun t112 => GF 5 3 t112 u104 fun t113 => RT t113 u104, GF 6 6 x0 u104 fun t114 => GF 5 2 t114 u104 fun t115 => RT t115 u104, GF 6 7 x0 u104 fun t116 => GF 6 6 x0 u104 fun t117 => KD 2 t116 u104 (CL (FX2_dotsOfAll t116 t117 u104) fun t118 u119 => RT t118 u119), GF 6 7 x0 u104 fun t120 => GF 6 6 x0 u104 fun t121 => KD 2 t120 u104 (CL (FX2_cellsHaving t120 t121 0 u104) fun t122 u123 => RT t122 u123), GF 6 6 x0 u104 fun t124 => GF 5 3 t124 u104 fun t125 => if ¬ t125 = 0 then (GF 6 7 x0 u104 fun t126 => GF 6 6 x0 u104 fun t127 => GF 6 6 x0 u104 fun t128 => GF 5 3 t128 u104 fun t129 => KD 2 t126 u104 (CL (FX2_cellsHaving t126 t127 t129 u104) fun t130 u131 => BX6_state_169 t130 u131)) else (BX6_state_169 0 u104), GF 6 6 x0 u104 fun t132 => GF 5 5 t132 u104 fun t133 => GF 6 6 x0 u104 fun t134 => KD 5 t134 u104 (CL (FX5_cells t134 u104) fun t135 u136 => CL (FX6_sumOfTones t133 t135 u136) fun t137 u138 => RT t137 u138)] (GF 6 6 x0 u104 fun t105 => KD 5 t105 u104 (CL (FX5_cleanedOfAll t105 u104) fun t106 u107 => RT t106 u107)))) else (BX6_state_10 μ))
def FX6_state (a0 a1 : Int) (μ : Mem) : Rz := BX6_state_0 a0 a1 μ
def BX6_tone_0 (x0 x1 x2 : Int) (μ : Mem) : Rz := KD 6 x0 μ (CL (FX6_requireCell x0 x1 x2 μ) fun _ u102 => GF 6 6 x0 u102 fun t103 => GF 5 5 t103 u102 fun t104 => GF 6 6 x0 u102 fun t105 => KD 5 t105 u102 (CL (FX5_indexOfCell t105 x1 x2 u102) fun t106 u107 => AL 1 t104 t106 u107 fun t108 => RT t108 u107))
def FX6_tone (a0 a1 a2 : Int) (μ : Mem) : Rz := BX6_tone_0 a0 a1 a2 μ
def BX6_turn_31 (μ : Mem) : Rz := TH 2 μ
def BX6_turn_41 (x0 x1 x2 x3 : Int) (μ : Mem) : Rz := KD 6 x0 μ (CL (FX6_startChange x0 μ) fun _ u102 => GF 6 6 x0 u102 fun t103 => GF 5 4 t103 u102 fun t104 => AL 5 t104 x1 u102 fun t105 => PF 1 1 t105 x2 u102 fun u106 => GF 6 6 x0 u106 fun t107 => GF 5 4 t107 u106 fun t108 => AL 5 t108 x1 u106 fun t109 => PF 1 2 t109 x3 u106 fun u110 => GF 6 6 x0 u110 fun t111 => GF 5 4 t111 u110 fun t112 => AL 5 t112 x1 u110 fun t113 => KD 1 t113 u110 (CL (FX1_p t113 u110) fun t114 u115 => RT t114 u115))
def BX6_turn_0 (x0 x1 x2 x3 : Int) (μ : Mem) : Rz := KD 6 x0 μ (CL (FX6_requirePlate x0 x1 μ) fun _ u102 => if x2 < 0 then (BX6_turn_31 u102) else (if 3 < x2 then (BX6_turn_31 u102) else (if x3 < 0 then (BX6_turn_31 u102) else (if 3 < x3 then (BX6_turn_31 u102) else (if ¬ x2 = 0 then (BX6_turn_41 x0 x1 x2 x3 u102) else (if ¬ x3 = 0 then (BX6_turn_41 x0 x1 x2 x3 u102) else (BX6_turn_31 u102)))))))
def FX6_turn (a0 a1 a2 a3 : Int) (μ : Mem) : Rz := BX6_turn_0 a0 a1 a2 a3 μ
def BX6_why_85 (s0 : Int) (μ : Mem) : Rz := RT s0 μ
def BX6_why_0 (x0 x1 x2 x3 : Int) (μ : Mem) : Rz := KD 6 x0 μ (CL (FX6_requirePlate x0 x1 μ) fun _ u102 => KD 6 x0 u102 (CL (FX6_requireCell x0 x2 x3 u102) fun _ u104 => GF 6 7 x0 u104 fun t105 => GF 6 6 x0 u104 fun t106 => KD 2 t105 u104 (CL (FX2_update t105 t106 u104) fun _ u108 => GF 6 6 x0 u108 fun t109 => KD 5 t109 u108 (CL (FX5_indexOfCell t109 x2 x3 u108) fun t110 u111 => GF 6 7 x0 u111 fun t112 => KD 2 t112 u111 (CL (FX2_hasDot t112 x1 t110 u111) fun t113 u114 => if t113 = 0 then (GF 6 6 x0 u114 fun t115 => KD 5 t115 u114 (CL (FX5_isCleaned t115 x1 t110 u114) fun t116 u117 => if t116 = 0 then (GF 6 7 x0 u117 fun t118 => GF 6 6 x0 u117 fun t119 => KD 2 t118 u117 (CL (FX2_isDark t118 t119 x1 x2 x3 u117) fun t120 u121 => if t120 = 0 then (BX6_why_85 2 u121) else (BX6_why_85 3 u121))) else (RT 1 u117))) else (RT 0 u114))))))
def FX6_why (a0 a1 a2 a3 : Int) (μ : Mem) : Rz := BX6_why_0 a0 a1 a2 a3 μ
def BX6_appendWord_46 (μ : Mem) : Rz := RT 0 μ
def BX6_appendWord_3 (k3 : Int → Int → Int → Mem → Rz) (x0 x1 x2 : Int) (μ : Mem) : Rz := if x2 < 0 then (BX6_appendWord_46 μ) else (GF 6 1 x0 μ fun t101 => if 600 ≤ t101 then (BX6_appendWord_46 μ) else (GF 6 0 x0 μ fun t102 => GF 6 1 x0 μ fun t103 => ASB t102 t103 (w8 (bUsh x1 x2)) μ fun u104 => GF 6 1 x0 u104 fun t105 => PF 6 1 x0 (w32 (t105 + 1)) u104 fun u106 => k3 x0 x1 (w32 (x2 + (-8))) u106))
def LX6_appendWord_3 : Nat → Int → Int → Int → Mem → Rz
  | 0, _, _, _, _ => none
  | n + 1, x0, x1, x2, μ => BX6_appendWord_3 (fun y0 y1 y2 ν => LX6_appendWord_3 n y0 y1 y2 ν) x0 x1 x2 μ
def BX6_appendWord_0 (x0 x1 : Int) (μ : Mem) : Rz := LX6_appendWord_3 FU x0 x1 24 μ
def FX6_appendWord (a0 a1 : Int) (μ : Mem) : Rz := BX6_appendWord_0 a0 a1 μ
def BX6_append_0 (x0 x1 x2 x3 x4 x5 : Int) (μ : Mem) : Rz := GF 6 1 x0 μ fun t101 => if t101 ≤ 580 then (KD 6 x0 μ (CL (FX6_appendWord x0 x1 μ) fun _ u103 => KD 6 x0 u103 (CL (FX6_appendWord x0 x2 u103) fun _ u105 => KD 6 x0 u105 (CL (FX6_appendWord x0 x3 u105) fun _ u107 => KD 6 x0 u107 (CL (FX6_appendWord x0 x4 u107) fun _ u109 => KD 6 x0 u109 (CL (FX6_appendWord x0 x5 u109) fun _ u111 => GF 6 1 x0 u111 fun t112 => RT t112 u111)))))) else (RT (-1) μ)
def FX6_append (a0 a1 a2 a3 a4 a5 : Int) (μ : Mem) : Rz := BX6_append_0 a0 a1 a2 a3 a4 a5 μ
def BX6_checksum_81 (k81 : Int → Int → Int → Mem → Rz) (x0 x1 x3 : Int) (μ : Mem) : Rz := GF 6 6 x0 μ fun t101 => KD 5 t101 μ (CL (FX5_cells t101 μ) fun t102 u103 => if t102 ≤ x3 then (RT x1 u103) else (GF 6 6 x0 u103 fun t104 => GF 5 5 t104 u103 fun t105 => AL 1 t105 x3 u103 fun t106 => LT (w64 ((w64 (31 * x1)) + t106)) fun x107 => GF 6 7 x0 u103 fun t108 => GF 2 1 t108 u103 fun t109 => AL 1 t109 x3 u103 fun t110 => LT (w64 ((w64 (31 * x107)) + t110)) fun x111 => k81 x0 x111 (w32 (x3 + 1)) u103))
def LX6_checksum_81 : Nat → Int → Int → Int → Mem → Rz
  | 0, _, _, _, _ => none
  | n + 1, x0, x1, x3, μ => BX6_checksum_81 (fun y0 y1 y3 ν => LX6_checksum_81 n y0 y1 y3 ν) x0 x1 x3 μ
def BX6_checksum_45 (k31 : Int → Int → Int → Mem → Rz) (k45 : Int → Int → Int → Int → Mem → Rz) (x0 x1 x3 x4 : Int) (μ : Mem) : Rz := if 10 < x4 then (k31 x0 x1 (w32 (x3 + 1)) μ) else (KD 6 x0 μ (CL (FX6_plate x0 x3 x4 μ) fun t101 u102 => LT (w64 ((w64 (31 * x1)) + t101)) fun x103 => k45 x0 x103 x3 (w32 (x4 + 1)) u102))
def LX6_checksum_45 (k31 : Int → Int → Int → Mem → Rz) : Nat → Int → Int → Int → Int → Mem → Rz
  | 0, _, _, _, _, _ => none
  | n + 1, x0, x1, x3, x4, μ => BX6_checksum_45 k31 (fun y0 y1 y3 y4 ν => LX6_checksum_45 k31 n y0 y1 y3 y4 ν) x0 x1 x3 x4 μ
def BX6_checksum_31 (k31 : Int → Int → Int → Mem → Rz) (x0 x1 x3 : Int) (μ : Mem) : Rz := GF 6 6 x0 μ fun t101 => GF 5 3 t101 μ fun t102 => if t102 ≤ x3 then (LX6_checksum_81 FU x0 x1 0 μ) else (LX6_checksum_45 k31 FU x0 x1 x3 0 μ)
def LX6_checksum_31 : Nat → Int → Int → Int → Mem → Rz
  | 0, _, _, _, _ => none
  | n + 1, x0, x1, x3, μ => BX6_checksum_31 (fun y0 y1 y3 ν => LX6_checksum_31 n y0 y1 y3 ν) x0 x1 x3 μ
def BX6_checksum_4 (k4 : Int → Int → Int → Mem → Rz) (x0 x1 x3 : Int) (μ : Mem) : Rz := if 8 < x3 then (LX6_checksum_31 FU x0 x1 0 μ) else (KD 6 x0 μ (CL (FX6_state x0 x3 μ) fun t101 u102 => LT (w64 ((w64 (31 * x1)) + t101)) fun x103 => k4 x0 x103 (w32 (x3 + 1)) u102))
def LX6_checksum_4 : Nat → Int → Int → Int → Mem → Rz
  | 0, _, _, _, _ => none
  | n + 1, x0, x1, x3, μ => BX6_checksum_4 (fun y0 y1 y3 ν => LX6_checksum_4 n y0 y1 y3 ν) x0 x1 x3 μ
def BX6_checksum_0 (x0 : Int) (μ : Mem) : Rz := LX6_checksum_4 FU x0 0 0 μ
def FX6_checksum (a0 : Int) (μ : Mem) : Rz := BX6_checksum_0 a0 μ
def BX6_errorOffset_0 (x0 : Int) (μ : Mem) : Rz := GF 6 2 x0 μ fun t101 => RT t101 μ
def FX6_errorOffset (a0 : Int) (μ : Mem) : Rz := BX6_errorOffset_0 a0 μ
def BX3_init_0 (x0 : Int) (μ : Mem) : Rz := if 0 < x0 then (PF 3 0 x0 0 μ fun u101 => PF 3 1 x0 0 u101 fun u102 => PF 3 2 x0 0 u102 fun u103 => PF 3 3 x0 (-1) u103 fun u104 => NA 1 324 u104 fun t105 u106 => PF 3 4 x0 t105 u106 fun u107 => RT 0 u107) else none
def FX3_init (a0 : Int) (μ : Mem) : Rz := BX3_init_0 a0 μ
def BX2_init_69 (k69 : Int → Int → Mem → Rz) (x0 x1 : Int) (μ : Mem) : Rz := if 4 ≤ x1 then (RT 0 μ) else (GF 2 3 x0 μ fun t101 => NW 3 5 μ fun t102 u103 => KD 3 t102 u103 (CL (FX3_init t102 u103) fun _ u105 => ASR 6 3 t101 x1 t102 u105 fun u106 => k69 x0 (w32 (x1 + 1)) u106))
def LX2_init_69 : Nat → Int → Int → Mem → Rz
  | 0, _, _, _ => none
  | n + 1, x0, x1, μ => BX2_init_69 (fun y0 y1 ν => LX2_init_69 n y0 y1 ν) x0 x1 μ
def BX2_init_0 (x0 : Int) (μ : Mem) : Rz := if 0 < x0 then (NM 4 192 μ fun t101 u102 => PF 2 0 x0 t101 u102 fun u103 => NA 1 192 u103 fun t104 u105 => PF 2 1 x0 t104 u105 fun u106 => NA 1 4 u106 fun t107 u108 => PF 2 2 x0 t107 u108 fun u109 => NA 6 4 u109 fun t110 u111 => PF 2 3 x0 t110 u111 fun u112 => NA 1 650 u112 fun t113 u114 => PF 2 4 x0 t113 u114 fun u115 => NA 1 11 u115 fun t116 u117 => PF 2 5 x0 t116 u117 fun u118 => PZ 2 6 x0 0 u118 fun u119 => PZ 2 7 x0 0 u119 fun u120 => LX2_init_69 FU x0 0 u120) else none
def FX2_init (a0 : Int) (μ : Mem) : Rz := BX2_init_0 a0 μ
def BX4_init_0 (x0 : Int) (μ : Mem) : Rz := if 0 < x0 then (NA 1 600 μ fun t101 u102 => PF 4 11 x0 t101 u102 fun u103 => RT 0 u103) else none
def FX4_init (a0 : Int) (μ : Mem) : Rz := BX4_init_0 a0 μ
def BX1_init_0 (x0 : Int) (μ : Mem) : Rz := if 0 < x0 then (PF 1 1 x0 1 μ fun u101 => RT 0 u101) else none
def FX1_init (a0 : Int) (μ : Mem) : Rz := BX1_init_0 a0 μ
def BX5_init_54 (k54 : Int → Int → Mem → Rz) (x0 x1 : Int) (μ : Mem) : Rz := if 4 ≤ x1 then (RT 0 μ) else (GF 5 4 x0 μ fun t101 => NW 1 8 μ fun t102 u103 => KD 1 t102 u103 (CL (FX1_init t102 u103) fun _ u105 => ASR 5 1 t101 x1 t102 u105 fun u106 => k54 x0 (w32 (x1 + 1)) u106))
def LX5_init_54 : Nat → Int → Int → Mem → Rz
  | 0, _, _, _ => none
  | n + 1, x0, x1, μ => BX5_init_54 (fun y0 y1 ν => LX5_init_54 n y0 y1 ν) x0 x1 μ
def BX5_init_0 (x0 : Int) (μ : Mem) : Rz := if 0 < x0 then (PF 5 0 x0 8 μ fun u101 => PF 5 1 x0 8 u101 fun u102 => PF 5 2 x0 4 u102 fun u103 => PF 5 3 x0 0 u103 fun u104 => NA 5 4 u104 fun t105 u106 => PF 5 4 x0 t105 u106 fun u107 => NA 1 192 u107 fun t108 u109 => PF 5 5 x0 t108 u109 fun u110 => NA 1 192 u110 fun t111 u112 => PF 5 6 x0 t111 u112 fun u113 => LX5_init_54 FU x0 0 u113) else none
def FX5_init (a0 : Int) (μ : Mem) : Rz := BX5_init_0 a0 μ
def BX6_init_66 (k66 : Int → Int → Mem → Rz) (x0 x1 : Int) (μ : Mem) : Rz := if 10 ≤ x1 then (GF 6 3 x0 μ fun t101 => GF 6 4 x0 μ fun t102 => AL 4 t101 t102 μ fun t103 => PF 6 6 x0 t103 μ fun u104 => RT 0 u104) else (GF 6 3 x0 μ fun t105 => NW 5 7 μ fun t106 u107 => KD 5 t106 u107 (CL (FX5_init t106 u107) fun _ u109 => ASR 4 5 t105 x1 t106 u109 fun u110 => k66 x0 (w32 (x1 + 1)) u110))
def LX6_init_66 : Nat → Int → Int → Mem → Rz
  | 0, _, _, _ => none
  | n + 1, x0, x1, μ => BX6_init_66 (fun y0 y1 ν => LX6_init_66 n y0 y1 ν) x0 x1 μ
def BX6_init_0 (x0 : Int) (μ : Mem) : Rz := if 0 < x0 then (NA 0 600 μ fun t101 u102 => PF 6 0 x0 t101 u102 fun u103 => PF 6 1 x0 0 u103 fun u104 => PF 6 2 x0 (-1) u104 fun u105 => NA 4 10 u105 fun t106 u107 => PF 6 3 x0 t106 u107 fun u108 => PF 6 4 x0 0 u108 fun u109 => PF 6 5 x0 0 u109 fun u110 => NW 2 8 u110 fun t111 u112 => KD 2 t111 u112 (CL (FX2_init t111 u112) fun _ u114 => PF 6 7 x0 t111 u114 fun u115 => NW 4 13 u115 fun t116 u117 => KD 4 t116 u117 (CL (FX4_init t116 u117) fun _ u119 => PF 6 8 x0 t116 u119 fun u120 => LX6_init_66 FU x0 0 u120))) else none
def FX6_init (a0 : Int) (μ : Mem) : Rz := BX6_init_0 a0 μ
def BX6_undo_0 (x0 : Int) (μ : Mem) : Rz := GF 6 5 x0 μ fun t101 => if 1 ≤ t101 then (GF 6 5 x0 μ fun t102 => PF 6 5 x0 (w32 (t102 - 1)) μ fun u103 => GF 6 4 x0 u103 fun t104 => RM (w32 ((w32 (t104 + 10)) - 1)) 10 fun t105 => PF 6 4 x0 t105 u103 fun u106 => GF 6 3 x0 u106 fun t107 => GF 6 4 x0 u106 fun t108 => AL 4 t107 t108 u106 fun t109 => PF 6 6 x0 t109 u106 fun u110 => GF 6 7 x0 u110 fun t111 => KD 2 t111 u110 (CL (FX2_forgetTones t111 u110) fun _ u113 => GF 6 5 x0 u113 fun t114 => RT t114 u113)) else (RT (-1) μ)
def FX6_undo (a0 : Int) (μ : Mem) : Rz := BX6_undo_0 a0 μ
def BX6_worst_102 (k9 : Int → Int → Int → Int → Int → Mem → Rz) (k27 : Int → Int → Int → Int → Int → Int → Mem → Rz) (x0 x1 x2 x3 x5 x6 : Int) (μ : Mem) : Rz := k27 x0 x1 x2 x3 x5 (w32 (x6 + 1)) μ
def BX6_worst_101 (k9 : Int → Int → Int → Int → Int → Mem → Rz) (k27 : Int → Int → Int → Int → Int → Int → Mem → Rz) (x0 x1 x3 x5 x6 s0 : Int) (μ : Mem) : Rz := BX6_worst_102 k9 k27 x0 x1 s0 x3 x5 x6 μ
def BX6_worst_27 (k9 : Int → Int → Int → Int → Int → Mem → Rz) (k27 : Int → Int → Int → Int → Int → Int → Mem → Rz) (x0 x1 x2 x3 x5 x6 : Int) (μ : Mem) : Rz := GF 6 6 x0 μ fun t101 => GF 5 3 t101 μ fun t102 => if t102 ≤ x6 then (k9 x0 x1 x2 x3 (w32 (x5 + 1)) μ) else (GF 6 6 x0 μ fun t103 => GF 5 4 t103 μ fun t104 => AL 5 t104 x6 μ fun t105 => GF 6 6 x0 μ fun t106 => GF 5 4 t106 μ fun t107 => AL 5 t107 x5 μ fun t108 => GF 1 1 t108 μ fun t109 => GF 6 6 x0 μ fun t110 => GF 5 4 t110 μ fun t111 => AL 5 t111 x5 μ fun t112 => GF 1 2 t112 μ fun t113 => CL (FX6_moireWith t105 t109 t113 μ) fun t114 u115 => if dCmp .l t114 x3 ≤ 0 then (BX6_worst_102 k9 k27 x0 x1 x2 x3 x5 x6 u115) else (if x1 = 0 then (BX6_worst_101 k9 k27 x0 x1 t114 x5 x6 x5 u115) else (BX6_worst_101 k9 k27 x0 x1 t114 x5 x6 x6 u115)))
def LX6_worst_27 (k9 : Int → Int → Int → Int → Int → Mem → Rz) : Nat → Int → Int → Int → Int → Int → Int → Mem → Rz
  | 0, _, _, _, _, _, _, _ => none
  | n + 1, x0, x1, x2, x3, x5, x6, μ => BX6_worst_27 k9 (fun y0 y1 y2 y3 y5 y6 ν => LX6_worst_27 k9 n y0 y1 y2 y3 y5 y6 ν) x0 x1 x2 x3 x5 x6 μ
def BX6_worst_9 (k9 : Int → Int → Int → Int → Int → Mem → Rz) (x0 x1 x2 x3 x5 : Int) (μ : Mem) : Rz := GF 6 6 x0 μ fun t101 => GF 5 3 t101 μ fun t102 => if t102 ≤ x5 then (RT x2 μ) else (LT (w32 (x5 + 1)) fun x103 => LX6_worst_27 k9 FU x0 x1 x2 x3 x5 x103 μ)
def LX6_worst_9 : Nat → Int → Int → Int → Int → Int → Mem → Rz
  | 0, _, _, _, _, _, _ => none
  | n + 1, x0, x1, x2, x3, x5, μ => BX6_worst_9 (fun y0 y1 y2 y3 y5 ν => LX6_worst_9 n y0 y1 y2 y3 y5 ν) x0 x1 x2 x3 x5 μ
def BX6_worst_0 (x0 x1 : Int) (μ : Mem) : Rz := LX6_worst_9 FU x0 x1 (-1) 13830554455654793216 0 μ
def FX6_worst (a0 a1 : Int) (μ : Mem) : Rz := BX6_worst_0 a0 a1 μ
def BX7_four_3 (k3 : Int → Int → Int → Mem → Rz) (x0 x1 x2 : Int) (μ : Mem) : Rz := if x2 < 0 then (RT 0 μ) else (GF 7 11 x0 μ fun t101 => GF 7 12 x0 μ fun t102 => AS 1 t101 t102 (bAnd (bShr x1 x2) 255) μ fun u103 => GF 7 12 x0 u103 fun t104 => PF 7 12 x0 (w32 (t104 + 1)) u103 fun u105 => k3 x0 x1 (w32 (x2 + (-8))) u105)
def LX7_four_3 : Nat → Int → Int → Int → Mem → Rz
  | 0, _, _, _, _ => none
  | n + 1, x0, x1, x2, μ => BX7_four_3 (fun y0 y1 y2 ν => LX7_four_3 n y0 y1 y2 ν) x0 x1 x2 μ
def BX7_four_0 (x0 x1 : Int) (μ : Mem) : Rz := LX7_four_3 FU x0 x1 24 μ
def FX7_four (a0 a1 : Int) (μ : Mem) : Rz := BX7_four_0 a0 a1 μ
def BX7_append_0 (x0 x1 x2 x3 x4 x5 : Int) (μ : Mem) : Rz := PF 7 0 x0 0 μ fun u101 => GF 7 12 x0 u101 fun t102 => if w32 (t102 + 20) ≤ 600 then (KD 7 x0 u101 (CL (FX7_four x0 x1 u101) fun _ u104 => KD 7 x0 u104 (CL (FX7_four x0 x2 u104) fun _ u106 => KD 7 x0 u106 (CL (FX7_four x0 x3 u106) fun _ u108 => KD 7 x0 u108 (CL (FX7_four x0 x4 u108) fun _ u110 => KD 7 x0 u110 (CL (FX7_four x0 x5 u110) fun _ u112 => GF 7 12 x0 u112 fun t113 => RT t113 u112)))))) else (RT (-1) u101)
def FX7_append (a0 a1 a2 a3 a4 a5 : Int) (μ : Mem) : Rz := BX7_append_0 a0 a1 a2 a3 a4 a5 μ
def BX7_moireOf_78 (s0 : Int) (μ : Mem) : Rz := RT s0 μ
def BX7_moireOf_0 (x0 x1 x2 x3 : Int) (μ : Mem) : Rz := LT (w32 ((w32 (x0 * x0)) + (w32 (x1 * x1)))) fun x101 => LT (w32 ((w32 (x2 * x2)) + (w32 (x3 * x3)))) fun x102 => LT (w32 ((w32 (x0 * x102)) - (w32 (x2 * x101)))) fun x103 => LT (w32 ((w32 (x1 * x102)) - (w32 (x3 * x101)))) fun x104 => LT (w32 ((w32 (x103 * x103)) + (w32 (x104 * x104)))) fun x105 => if ¬ x105 = 0 then (DD (dOf (w32 ((w32 ((w32 (x101 * x101)) * x102)) * x102))) (dOf x105) fun t106 => BX7_moireOf_78 t106 μ) else (BX7_moireOf_78 0 μ)
def FX7_moireOf (a0 a1 a2 a3 : Int) (μ : Mem) : Rz := BX7_moireOf_0 a0 a1 a2 a3 μ
def BX7_get_0 (x0 x1 : Int) (μ : Mem) : Rz := GF 7 1 x0 μ fun t101 => GF 7 3 x0 μ fun t102 => AL 1 t101 (w32 ((w32 (5100 * t102)) + x1)) μ fun t103 => RT t103 μ
def FX7_get (a0 a1 : Int) (μ : Mem) : Rz := BX7_get_0 a0 a1 μ
def BX7_of_0 (x0 x1 x2 : Int) (μ : Mem) : Rz := KD 7 x0 μ (CL (FX7_get x0 (w32 ((w32 (196 + (w32 (1226 * x1)))) + x2)) μ) fun t101 u102 => RT t101 u102)
def FX7_of (a0 a1 a2 : Int) (μ : Mem) : Rz := BX7_of_0 a0 a1 a2 μ
def BX7_plates_0 (x0 : Int) (μ : Mem) : Rz := KD 7 x0 μ (CL (FX7_get x0 2 μ) fun t101 u102 => RT t101 u102)
def FX7_plates (a0 : Int) (μ : Mem) : Rz := BX7_plates_0 a0 μ
def BX7_greatestWith_49 (k6 : Int → Int → Int → Int → Int → Int → Mem → Rz) (x0 x1 x2 x3 x4 x6 : Int) (μ : Mem) : Rz := k6 x0 x1 x2 x3 x4 (w32 (x6 + 1)) μ
def BX7_greatestWith_6 (k6 : Int → Int → Int → Int → Int → Int → Mem → Rz) (x0 x1 x2 x3 x4 x6 : Int) (μ : Mem) : Rz := KD 7 x0 μ (CL (FX7_plates x0 μ) fun t101 u102 => if t101 ≤ x6 then (RT x4 u102) else (if x6 = x1 then (BX7_greatestWith_49 k6 x0 x1 x2 x3 x4 x6 u102) else (KD 7 x0 u102 (CL (FX7_of x0 x6 7 u102) fun t103 u104 => KD 7 x0 u104 (CL (FX7_of x0 x6 8 u104) fun t105 u106 => CL (FX7_moireOf x2 x3 t103 t105 u106) fun t107 u108 => DMX x4 t107 fun t109 => BX7_greatestWith_49 k6 x0 x1 x2 x3 t109 x6 u108)))))
def LX7_greatestWith_6 : Nat → Int → Int → Int → Int → Int → Int → Mem → Rz
  | 0, _, _, _, _, _, _, _ => none
  | n + 1, x0, x1, x2, x3, x4, x6, μ => BX7_greatestWith_6 (fun y0 y1 y2 y3 y4 y6 ν => LX7_greatestWith_6 n y0 y1 y2 y3 y4 y6 ν) x0 x1 x2 x3 x4 x6 μ
def BX7_greatestWith_0 (x0 x1 x2 x3 : Int) (μ : Mem) : Rz := LX7_greatestWith_6 FU x0 x1 x2 x3 0 0 μ
def FX7_greatestWith (a0 a1 a2 a3 : Int) (μ : Mem) : Rz := BX7_greatestWith_0 a0 a1 a2 a3 μ
def BX7_isIn_15 (s0 : Int) (μ : Mem) : Rz := RTZ s0 μ
def BX7_isIn_14 (μ : Mem) : Rz := BX7_isIn_15 0 μ
def BX7_isIn_0 (x0 x1 x2 : Int) (μ : Mem) : Rz := if x0 < x1 then (BX7_isIn_14 μ) else (if x2 < x0 then (BX7_isIn_14 μ) else (BX7_isIn_15 1 μ))
def FX7_isIn (a0 a1 a2 : Int) (μ : Mem) : Rz := BX7_isIn_0 a0 a1 a2 μ
def BX7_isPlate_0 (x0 x1 : Int) (μ : Mem) : Rz := KD 7 x0 μ (CL (FX7_plates x0 μ) fun t101 u102 => CL (FX7_isIn x1 0 (w32 (t101 - 1)) u102) fun t103 u104 => RTZ t103 u104)
def FX7_isPlate (a0 a1 : Int) (μ : Mem) : Rz := BX7_isPlate_0 a0 a1 μ
def BX7_right_28 (s0 : Int) (μ : Mem) : Rz := RTZ s0 μ
def BX7_right_16 (x0 : Int) (μ : Mem) : Rz := GF 7 0 x0 μ fun t101 => if ¬ t101 = 0 then (BX7_right_28 0 μ) else (BX7_right_28 1 μ)
def BX7_right_0 (x0 x1 x2 : Int) (μ : Mem) : Rz := GF 7 0 x0 μ fun t101 => if ¬ t101 = 0 then (BX7_right_16 x0 μ) else (if ¬ x1 = 0 then (BX7_right_16 x0 μ) else (PF 7 0 x0 x2 μ fun u102 => BX7_right_16 x0 u102))
def FX7_right (a0 a1 a2 : Int) (μ : Mem) : Rz := BX7_right_0 a0 a1 a2 μ
def BX7_bestTurn_85 (k51 : Int → Int → Int → Int → Mem → Rz) (x0 x1 x2 x3 : Int) (μ : Mem) : Rz := k51 x0 x1 x2 (w32 (x3 + 1)) μ
def BX7_bestTurn_51 (k51 : Int → Int → Int → Int → Mem → Rz) (x0 x1 x2 x3 : Int) (μ : Mem) : Rz := if 16 ≤ x3 then (DV x2 4 fun t101 => RM x2 4 fun t102 => RT (w32 ((w32 (10 * t101)) + t102)) μ) else (DV x3 4 fun t103 => RM x3 4 fun t104 => KD 7 x0 μ (CL (FX7_greatestWith x0 x1 t103 t104 μ) fun t105 u106 => DV x2 4 fun t107 => RM x2 4 fun t108 => KD 7 x0 u106 (CL (FX7_greatestWith x0 x1 t107 t108 u106) fun t109 u110 => if 0 ≤ dCmp .g t105 t109 then (BX7_bestTurn_85 k51 x0 x1 x2 x3 u110) else (BX7_bestTurn_85 k51 x0 x1 x3 x3 u110))))
def LX7_bestTurn_51 : Nat → Int → Int → Int → Int → Mem → Rz
  | 0, _, _, _, _, _ => none
  | n + 1, x0, x1, x2, x3, μ => BX7_bestTurn_51 (fun y0 y1 y2 y3 ν => LX7_bestTurn_51 n y0 y1 y2 y3 ν) x0 x1 x2 x3 μ
def BX7_bestTurn_0 (x0 x1 : Int) (μ : Mem) : Rz := PF 7 0 x0 0 μ fun u101 => KD 7 x0 u101 (CL (FX7_isPlate x0 x1 u101) fun t102 u103 => KD 7 x0 u103 (CL (FX7_right x0 t102 1 u103) fun t104 u105 => if ¬ t104 = 0 then (KD 7 x0 u105 (CL (FX7_plates x0 u105) fun t106 u107 => if ¬ t106 = 1 then (LX7_bestTurn_51 FU x0 x1 1 2 u107) else (KD 7 x0 u107 (CL (FX7_of x0 x1 7 u107) fun t108 u109 => KD 7 x0 u109 (CL (FX7_of x0 x1 8 u109) fun t110 u111 => RT (w32 ((w32 (10 * t108)) + t110)) u111))))) else (RT 0 u105)))
def FX7_bestTurn (a0 a1 : Int) (μ : Mem) : Rz := BX7_bestTurn_0 a0 a1 μ
def BX7_high_0 (x0 : Int) (μ : Mem) : Rz := KD 7 x0 μ (CL (FX7_get x0 1 μ) fun t101 u102 => RT t101 u102)
def FX7_high (a0 : Int) (μ : Mem) : Rz := BX7_high_0 a0 μ
def BX7_wide_0 (x0 : Int) (μ : Mem) : Rz := KD 7 x0 μ (CL (FX7_get x0 0 μ) fun t101 u102 => RT t101 u102)
def FX7_wide (a0 : Int) (μ : Mem) : Rz := BX7_wide_0 a0 μ
def BX7_isCell_33 (s0 : Int) (μ : Mem) : Rz := RTZ s0 μ
def BX7_isCell_32 (μ : Mem) : Rz := BX7_isCell_33 0 μ
def BX7_isCell_0 (x0 x1 x2 : Int) (μ : Mem) : Rz := KD 7 x0 μ (CL (FX7_wide x0 μ) fun t101 u102 => CL (FX7_isIn x1 0 (w32 (t101 - 1)) u102) fun t103 u104 => if t103 = 0 then (BX7_isCell_32 u104) else (KD 7 x0 u104 (CL (FX7_high x0 u104) fun t105 u106 => CL (FX7_isIn x2 0 (w32 (t105 - 1)) u106) fun t107 u108 => if t107 = 0 then (BX7_isCell_32 u108) else (BX7_isCell_33 1 u108))))
def FX7_isCell (a0 a1 a2 : Int) (μ : Mem) : Rz := BX7_isCell_0 a0 a1 a2 μ
def BX7_hasDot_33 (s0 : Int) (μ : Mem) : Rz := RTZ s0 μ
def BX7_hasDot_32 (μ : Mem) : Rz := BX7_hasDot_33 0 μ
def BX7_hasDot_0 (x0 x1 x2 x3 : Int) (μ : Mem) : Rz := KD 7 x0 μ (CL (FX7_isCell x0 x2 x3 μ) fun t101 u102 => if t101 = 0 then (BX7_hasDot_32 u102) else (GF 7 9 x0 u102 fun t103 => AL 1 t103 (w32 ((w32 (16 * x3)) + x2)) u102 fun t104 => if ¬ bAnd (bShr t104 x1) 1 = 1 then (BX7_hasDot_32 u102) else (BX7_hasDot_33 1 u102)))
def FX7_hasDot (a0 a1 a2 a3 : Int) (μ : Mem) : Rz := BX7_hasDot_0 a0 a1 a2 a3 μ
def BX7_isCleaned_22 (s0 : Int) (μ : Mem) : Rz := RTZ s0 μ
def BX7_isCleaned_0 (x0 x1 x2 x3 : Int) (μ : Mem) : Rz := KD 7 x0 μ (CL (FX7_of x0 x1 (w32 (14 + x3)) μ) fun t101 u102 => if ¬ bAnd (bShr t101 x2) 1 = 1 then (BX7_isCleaned_22 0 u102) else (BX7_isCleaned_22 1 u102))
def FX7_isCleaned (a0 a1 a2 a3 : Int) (μ : Mem) : Rz := BX7_isCleaned_0 a0 a1 a2 a3 μ
def BX7_isSpot_63 (s0 : Int) (μ : Mem) : Rz := RTZ s0 μ
def BX7_isSpot_62 (μ : Mem) : Rz := BX7_isSpot_63 0 μ
def BX7_isSpot_0 (x0 x1 x2 x3 : Int) (μ : Mem) : Rz := KD 7 x0 μ (CL (FX7_hasDot x0 x1 x2 x3 μ) fun t101 u102 => if t101 = 0 then (BX7_isSpot_62 u102) else (KD 7 x0 u102 (CL (FX7_hasDot x0 x1 (w32 (x2 - 1)) x3 u102) fun t103 u104 => if ¬ t103 = 0 then (BX7_isSpot_62 u104) else (KD 7 x0 u104 (CL (FX7_hasDot x0 x1 (w32 (x2 + 1)) x3 u104) fun t105 u106 => if ¬ t105 = 0 then (BX7_isSpot_62 u106) else (KD 7 x0 u106 (CL (FX7_hasDot x0 x1 x2 (w32 (x3 - 1)) u106) fun t107 u108 => if ¬ t107 = 0 then (BX7_isSpot_62 u108) else (KD 7 x0 u108 (CL (FX7_hasDot x0 x1 x2 (w32 (x3 + 1)) u108) fun t109 u110 => if ¬ t109 = 0 then (BX7_isSpot_62 u110) else (BX7_isSpot_63 1 u110))))))))))
def FX7_isSpot (a0 a1 a2 a3 : Int) (μ : Mem) : Rz := BX7_isSpot_0 a0 a1 a2 a3 μ
def BX7_bits_4 (k4 : Int → Int → Mem → Rz) (x1 x2 : Int) (μ : Mem) : Rz := if x2 = 0 then (RT x1 μ) else (LT (w32 (x1 + (bAnd x2 1))) fun x101 => LT (bUsh x2 1) fun x102 => k4 x101 x102 μ)
def LX7_bits_4 : Nat → Int → Int → Mem → Rz
  | 0, _, _, _ => none
  | n + 1, x1, x2, μ => BX7_bits_4 (fun y1 y2 ν => LX7_bits_4 n y1 y2 ν) x1 x2 μ
def BX7_bits_0 (x0 : Int) (μ : Mem) : Rz := LX7_bits_4 FU 0 x0 μ
def FX7_bits (a0 : Int) (μ : Mem) : Rz := BX7_bits_0 a0 μ
def BX7_squareOf_0 (x0 x1 : Int) (μ : Mem) : Rz := KD 7 x0 μ (CL (FX7_of x0 x1 7 μ) fun t101 u102 => KD 7 x0 u102 (CL (FX7_of x0 x1 7 u102) fun t103 u104 => KD 7 x0 u104 (CL (FX7_of x0 x1 8 u104) fun t105 u106 => KD 7 x0 u106 (CL (FX7_of x0 x1 8 u106) fun t107 u108 => RT (w32 ((w32 (t101 * t103)) + (w32 (t105 * t107)))) u108))))
def FX7_squareOf (a0 a1 : Int) (μ : Mem) : Rz := BX7_squareOf_0 a0 a1 μ
def BX7_isWanted_45 (s0 : Int) (μ : Mem) : Rz := RTZ s0 μ
def BX7_isWanted_0 (x0 x1 x2 : Int) (μ : Mem) : Rz := KD 7 x0 μ (CL (FX7_squareOf x0 x1 μ) fun t101 u102 => GF 7 7 x0 u102 fun t103 => AL 1 t103 (w32 ((w32 (192 * x1)) + x2)) u102 fun t104 => GF 7 8 x0 u102 fun t105 => AL 1 t105 (w32 ((w32 (192 * x1)) + x2)) u102 fun t106 => if w32 ((w32 (t106 * t101)) * t101) ≤ w32 (t104 * 100) then (BX7_isWanted_45 0 u102) else (BX7_isWanted_45 1 u102))
def FX7_isWanted (a0 a1 a2 : Int) (μ : Mem) : Rz := BX7_isWanted_0 a0 a1 a2 μ
def BX7_measure_151 (s0 : Int) (μ : Mem) : Rz := RT s0 μ
def BX7_measure_101 (x0 x8 s0 : Int) (μ : Mem) : Rz := if ¬ x0 = 0 then (if ¬ x0 = 1 then (if ¬ x0 = 2 then (CL (FJ9_max_7cf53 x8 s0 μ) fun t101 u102 => BX7_measure_151 t101 u102) else (BX7_measure_151 (w32 (x8 + s0)) μ)) else (BX7_measure_151 x8 μ)) else (BX7_measure_151 (w32 ((w32 (x8 * x8)) + (w32 (s0 * s0)))) μ)
def BX7_measure_73 (x0 x5 x7 s0 : Int) (μ : Mem) : Rz := if x5 ≤ w32 (2 * x7) then (BX7_measure_101 x0 s0 (w32 ((w32 (2 * x7)) - x5)) μ) else (BX7_measure_101 x0 s0 (w32 (x5 - (w32 (2 * x7)))) μ)
def BX7_measure_0 (x0 x1 x2 x3 x4 : Int) (μ : Mem) : Rz := LT (w32 ((w32 (x1 * x1)) + (w32 (x2 * x2)))) fun x101 => RM (w32 ((w32 (x1 * x3)) + (w32 (x2 * x4)))) x101 fun t102 => RM (w32 (t102 + x101)) x101 fun t103 => RM (w32 ((w32 (x1 * x4)) - (w32 (x2 * x3)))) x101 fun t104 => RM (w32 (t104 + x101)) x101 fun t105 => if x101 ≤ w32 (2 * t103) then (BX7_measure_73 x0 x101 t105 (w32 ((w32 (2 * t103)) - x101)) μ) else (BX7_measure_73 x0 x101 t105 (w32 (x101 - (w32 (2 * t103)))) μ)
def FX7_measure (a0 a1 a2 a3 a4 : Int) (μ : Mem) : Rz := BX7_measure_0 a0 a1 a2 a3 a4 μ
def BX7_laysMeasures_8 (k8 : Int → Int → Int → Int → Mem → Rz) (x0 x1 x2 x3 : Int) (μ : Mem) : Rz := if w32 (x2 * x2) ≤ x3 then (RT 0 μ) else (GF 7 5 x0 μ fun t101 => KD 7 x0 μ (CL (FX7_of x0 x1 9 μ) fun t102 u103 => KD 7 x0 u103 (CL (FX7_of x0 x1 7 u103) fun t104 u105 => KD 7 x0 u105 (CL (FX7_of x0 x1 8 u105) fun t106 u107 => RM x3 x2 fun t108 => DV x3 x2 fun t109 => CL (FX7_measure t102 t104 t106 t108 t109 u107) fun t110 u111 => AS 1 t101 x3 t110 u111 fun u112 => k8 x0 x1 x2 (w32 (x3 + 1)) u112))))
def LX7_laysMeasures_8 : Nat → Int → Int → Int → Int → Mem → Rz
  | 0, _, _, _, _, _ => none
  | n + 1, x0, x1, x2, x3, μ => BX7_laysMeasures_8 (fun y0 y1 y2 y3 ν => LX7_laysMeasures_8 n y0 y1 y2 y3 ν) x0 x1 x2 x3 μ
def BX7_laysMeasures_0 (x0 x1 : Int) (μ : Mem) : Rz := KD 7 x0 μ (CL (FX7_squareOf x0 x1 μ) fun t101 u102 => LX7_laysMeasures_8 FU x0 x1 t101 0 u102)
def FX7_laysMeasures (a0 a1 : Int) (μ : Mem) : Rz := BX7_laysMeasures_0 a0 a1 μ
def BX7_rankOf_57 (k5 : Int → Int → Int → Int → Int → Mem → Rz) (x0 x1 x2 x4 s0 s1 : Int) (μ : Mem) : Rz := LT (w32 (s1 + s0)) fun x101 => k5 x0 x1 x2 x101 (w32 (x4 + 1)) μ
def BX7_rankOf_52 (k5 : Int → Int → Int → Int → Int → Mem → Rz) (x0 x1 x2 x4 s0 : Int) (μ : Mem) : Rz := BX7_rankOf_57 k5 x0 x1 x2 x4 1 s0 μ
def BX7_rankOf_56 (k5 : Int → Int → Int → Int → Int → Mem → Rz) (x0 x1 x2 x4 s0 : Int) (μ : Mem) : Rz := BX7_rankOf_57 k5 x0 x1 x2 x4 0 s0 μ
def BX7_rankOf_5 (k5 : Int → Int → Int → Int → Int → Mem → Rz) (x0 x1 x2 x3 x4 : Int) (μ : Mem) : Rz := if w32 (x2 * x2) ≤ x4 then (RT x3 μ) else (GF 7 5 x0 μ fun t101 => AL 1 t101 x4 μ fun t102 => GF 7 5 x0 μ fun t103 => AL 1 t103 x1 μ fun t104 => if t102 < t104 then (BX7_rankOf_52 k5 x0 x1 x2 x4 x3 μ) else (GF 7 5 x0 μ fun t105 => AL 1 t105 x4 μ fun t106 => GF 7 5 x0 μ fun t107 => AL 1 t107 x1 μ fun t108 => if ¬ t106 = t108 then (BX7_rankOf_56 k5 x0 x1 x2 x4 x3 μ) else (if x1 ≤ x4 then (BX7_rankOf_56 k5 x0 x1 x2 x4 x3 μ) else (BX7_rankOf_52 k5 x0 x1 x2 x4 x3 μ))))
def LX7_rankOf_5 : Nat → Int → Int → Int → Int → Int → Mem → Rz
  | 0, _, _, _, _, _, _ => none
  | n + 1, x0, x1, x2, x3, x4, μ => BX7_rankOf_5 (fun y0 y1 y2 y3 y4 ν => LX7_rankOf_5 n y0 y1 y2 y3 y4 ν) x0 x1 x2 x3 x4 μ
def BX7_rankOf_0 (x0 x1 x2 : Int) (μ : Mem) : Rz := LX7_rankOf_5 FU x0 x1 x2 0 0 μ
def FX7_rankOf (a0 a1 a2 : Int) (μ : Mem) : Rz := BX7_rankOf_0 a0 a1 a2 μ
def BX7_toneAt_0 (x0 x1 x2 : Int) (μ : Mem) : Rz := KD 7 x0 μ (CL (FX7_get x0 (w32 ((w32 (4 + (w32 (16 * x2)))) + x1)) μ) fun t101 u102 => RT t101 u102)
def FX7_toneAt (a0 a1 a2 : Int) (μ : Mem) : Rz := BX7_toneAt_0 a0 a1 a2 μ
def BX7_toneOn_303 (s0 : Int) (μ : Mem) : Rz := RT s0 μ
def BX7_toneOn_257 (k27 : Int → Int → Int → Int → Int → Int → Int → Mem → Rz) (x0 x1 x2 x3 x4 x5 x6 : Int) (μ : Mem) : Rz := k27 x0 x1 x2 x3 x4 x5 (w32 (x6 + 1)) μ
def BX7_toneOn_256 (k27 : Int → Int → Int → Int → Int → Int → Int → Mem → Rz) (x0 x1 x2 x3 x4 x5 x6 s0 s1 s2 : Int) (μ : Mem) : Rz := AS 2 s2 s1 s0 μ fun u101 => BX7_toneOn_257 k27 x0 x1 x2 x3 x4 x5 x6 u101
def BX7_toneOn_214 (k27 : Int → Int → Int → Int → Int → Int → Int → Mem → Rz) (x0 x1 x2 x3 x4 x5 x6 s0 : Int) (μ : Mem) : Rz := GF 7 6 x0 μ fun t101 => if cLong s0 1000000 ≤ 0 then (if 0 ≤ cLong s0 (-1000000) then (BX7_toneOn_256 k27 x0 x1 x2 x3 x4 x5 x6 s0 (w32 (x5 - 1)) t101 μ) else (BX7_toneOn_256 k27 x0 x1 x2 x3 x4 x5 x6 (-1000000) (w32 (x5 - 1)) t101 μ)) else (BX7_toneOn_256 k27 x0 x1 x2 x3 x4 x5 x6 1000000 (w32 (x5 - 1)) t101 μ)
def BX7_toneOn_126 (k27 : Int → Int → Int → Int → Int → Int → Int → Mem → Rz) (x0 x1 x2 x3 x4 x5 x6 s0 s1 s2 : Int) (μ : Mem) : Rz := AS 2 s2 s1 s0 μ fun u101 => BX7_toneOn_257 k27 x0 x1 x2 x3 x4 (w32 (x5 + 1)) x6 u101
def BX7_toneOn_27 (k27 : Int → Int → Int → Int → Int → Int → Int → Mem → Rz) (x0 x1 x2 x3 x4 x5 x6 : Int) (μ : Mem) : Rz := if x4 ≤ x6 then (GF 7 6 x0 μ fun t101 => AL 2 t101 0 μ fun t102 => if 0 ≤ cLong t102 0 then (GF 7 6 x0 μ fun t103 => AL 2 t103 0 μ fun t104 => if cLong t104 100 ≤ 0 then (GF 7 6 x0 μ fun t105 => AL 2 t105 0 μ fun t106 => BX7_toneOn_303 (w32 t106) μ) else (BX7_toneOn_303 100 μ)) else (BX7_toneOn_303 0 μ)) else (KD 7 x0 μ (CL (FX7_of x0 x1 (w32 (26 + (w32 (2 * x6)))) μ) fun t107 u108 => KD 7 x0 u108 (CL (FX7_of x0 x1 (w32 ((w32 (26 + (w32 (2 * x6)))) + 1)) u108) fun t109 u110 => if 1 < t107 then (GF 7 6 x0 u110 fun t111 => AL 2 t111 (w32 (x5 + (-1))) u110 fun t112 => GF 7 6 x0 u110 fun t113 => AL 2 t113 (w32 ((w32 (x5 + (-1))) - 1)) u110 fun t114 => if ¬ t107 = 2 then (if ¬ t107 = 3 then (if ¬ t107 = 4 then (if ¬ cLong t112 0 = 0 then (LD t114 t112 fun t115 => BX7_toneOn_214 k27 x0 x1 x2 x3 x4 (w32 (x5 + (-1))) x6 t115 u110) else (BX7_toneOn_214 k27 x0 x1 x2 x3 x4 (w32 (x5 + (-1))) x6 0 u110)) else (BX7_toneOn_214 k27 x0 x1 x2 x3 x4 (w32 (x5 + (-1))) x6 (w64 (t114 * t112)) u110)) else (BX7_toneOn_214 k27 x0 x1 x2 x3 x4 (w32 (x5 + (-1))) x6 (w64 (t114 - t112)) u110)) else (BX7_toneOn_214 k27 x0 x1 x2 x3 x4 (w32 (x5 + (-1))) x6 (w64 (t114 + t112)) u110)) else (GF 7 6 x0 u110 fun t116 => if ¬ t107 = 0 then (if ¬ t109 = 0 then (if ¬ t109 = 1 then (if ¬ t109 = 2 then (BX7_toneOn_126 k27 x0 x1 x2 x3 x4 x5 x6 x1 x5 t116 u110) else (BX7_toneOn_126 k27 x0 x1 x2 x3 x4 x5 x6 x3 x5 t116 u110)) else (BX7_toneOn_126 k27 x0 x1 x2 x3 x4 x5 x6 x2 x5 t116 u110)) else (KD 7 x0 u110 (CL (FX7_toneAt x0 x2 x3 u110) fun t117 u118 => BX7_toneOn_126 k27 x0 x1 x2 x3 x4 x5 x6 t117 x5 t116 u118))) else (BX7_toneOn_126 k27 x0 x1 x2 x3 x4 x5 x6 t109 x5 t116 u110)))))
def LX7_toneOn_27 : Nat → Int → Int → Int → Int → Int → Int → Int → Mem → Rz
  | 0, _, _, _, _, _, _, _, _ => none
  | n + 1, x0, x1, x2, x3, x4, x5, x6, μ => BX7_toneOn_27 (fun y0 y1 y2 y3 y4 y5 y6 ν => LX7_toneOn_27 n y0 y1 y2 y3 y4 y5 y6 ν) x0 x1 x2 x3 x4 x5 x6 μ
def BX7_toneOn_0 (x0 x1 x2 x3 : Int) (μ : Mem) : Rz := KD 7 x0 μ (CL (FX7_of x0 x1 13 μ) fun t101 u102 => if ¬ t101 = 0 then (LX7_toneOn_27 FU x0 x1 x2 x3 t101 0 0 u102) else (KD 7 x0 u102 (CL (FX7_toneAt x0 x2 x3 u102) fun t103 u104 => RT t103 u104)))
def FX7_toneOn (a0 a1 a2 a3 : Int) (μ : Mem) : Rz := BX7_toneOn_0 a0 a1 a2 a3 μ
def BX7_laysPlate_173 (k13 : Int → Int → Int → Int → Mem → Rz) (k24 : Int → Int → Int → Int → Int → Mem → Rz) (x0 x1 x2 x3 x4 s0 s1 s2 s3 : Int) (μ : Mem) : Rz := AS 1 s3 s2 (bOr s1 s0) μ fun u101 => k24 x0 x1 x2 x3 (w32 (x4 + 1)) u101
def BX7_laysPlate_151 (k13 : Int → Int → Int → Int → Mem → Rz) (k24 : Int → Int → Int → Int → Int → Mem → Rz) (x0 x1 x2 x3 x4 x5 s0 : Int) (μ : Mem) : Rz := GF 7 9 x0 μ fun t101 => AL 1 t101 x5 μ fun t102 => if s0 = 0 then (BX7_laysPlate_173 k13 k24 x0 x1 x2 x3 x4 0 t102 x5 t101 μ) else (BX7_laysPlate_173 k13 k24 x0 x1 x2 x3 x4 (bShl 1 x1) t102 x5 t101 μ)
def BX7_laysPlate_150 (k13 : Int → Int → Int → Int → Mem → Rz) (k24 : Int → Int → Int → Int → Int → Mem → Rz) (x0 x1 x2 x3 x4 x5 : Int) (μ : Mem) : Rz := BX7_laysPlate_151 k13 k24 x0 x1 x2 x3 x4 x5 0 μ
def BX7_laysPlate_24 (k13 : Int → Int → Int → Int → Mem → Rz) (k24 : Int → Int → Int → Int → Int → Mem → Rz) (x0 x1 x2 x3 x4 : Int) (μ : Mem) : Rz := KD 7 x0 μ (CL (FX7_wide x0 μ) fun t101 u102 => if t101 ≤ x4 then (k13 x0 x1 x2 (w32 (x3 + 1)) u102) else (LT (w32 ((w32 (16 * x3)) + x4)) fun x103 => GF 7 7 x0 u102 fun t104 => KD 7 x0 u102 (CL (FX7_of x0 x1 11 u102) fun t105 u106 => RM (w32 (x3 + t105)) x2 fun t107 => KD 7 x0 u106 (CL (FX7_of x0 x1 10 u106) fun t108 u109 => RM (w32 (x4 + t108)) x2 fun t110 => KD 7 x0 u109 (CL (FX7_rankOf x0 (w32 ((w32 (x2 * t107)) + t110)) x2 u109) fun t111 u112 => AS 1 t104 (w32 ((w32 (192 * x1)) + x103)) t111 u112 fun u113 => GF 7 8 x0 u113 fun t114 => KD 7 x0 u113 (CL (FX7_toneOn x0 x1 x4 x3 u113) fun t115 u116 => AS 1 t114 (w32 ((w32 (192 * x1)) + x103)) t115 u116 fun u117 => KD 7 x0 u117 (CL (FX7_isWanted x0 x1 x103 u117) fun t118 u119 => if t118 = 0 then (BX7_laysPlate_150 k13 k24 x0 x1 x2 x3 x4 x103 u119) else (KD 7 x0 u119 (CL (FX7_isCleaned x0 x1 x4 x3 u119) fun t120 u121 => if ¬ t120 = 0 then (BX7_laysPlate_150 k13 k24 x0 x1 x2 x3 x4 x103 u121) else (GF 7 9 x0 u121 fun t122 => AL 1 t122 x103 u121 fun t123 => CL (FX7_bits t123 u121) fun t124 u125 => KD 7 x0 u125 (CL (FX7_get x0 3 u125) fun t126 u127 => if t126 ≤ t124 then (BX7_laysPlate_150 k13 k24 x0 x1 x2 x3 x4 x103 u127) else (BX7_laysPlate_151 k13 k24 x0 x1 x2 x3 x4 x103 1 u127))))))))))))
def LX7_laysPlate_24 (k13 : Int → Int → Int → Int → Mem → Rz) : Nat → Int → Int → Int → Int → Int → Mem → Rz
  | 0, _, _, _, _, _, _ => none
  | n + 1, x0, x1, x2, x3, x4, μ => BX7_laysPlate_24 k13 (fun y0 y1 y2 y3 y4 ν => LX7_laysPlate_24 k13 n y0 y1 y2 y3 y4 ν) x0 x1 x2 x3 x4 μ
def BX7_laysPlate_13 (k13 : Int → Int → Int → Int → Mem → Rz) (x0 x1 x2 x3 : Int) (μ : Mem) : Rz := KD 7 x0 μ (CL (FX7_high x0 μ) fun t101 u102 => if t101 ≤ x3 then (RT 0 u102) else (LX7_laysPlate_24 k13 FU x0 x1 x2 x3 0 u102))
def LX7_laysPlate_13 : Nat → Int → Int → Int → Int → Mem → Rz
  | 0, _, _, _, _, _ => none
  | n + 1, x0, x1, x2, x3, μ => BX7_laysPlate_13 (fun y0 y1 y2 y3 ν => LX7_laysPlate_13 n y0 y1 y2 y3 ν) x0 x1 x2 x3 μ
def BX7_laysPlate_0 (x0 x1 : Int) (μ : Mem) : Rz := KD 7 x0 μ (CL (FX7_laysMeasures x0 x1 μ) fun _ u102 => KD 7 x0 u102 (CL (FX7_squareOf x0 x1 u102) fun t103 u104 => LX7_laysPlate_13 FU x0 x1 t103 0 u104))
def FX7_laysPlate (a0 a1 : Int) (μ : Mem) : Rz := BX7_laysPlate_0 a0 a1 μ
def BX7_lays_37 (k37 : Int → Int → Mem → Rz) (x0 x1 : Int) (μ : Mem) : Rz := KD 7 x0 μ (CL (FX7_plates x0 μ) fun t101 u102 => if t101 ≤ x1 then (RT 0 u102) else (KD 7 x0 u102 (CL (FX7_laysPlate x0 x1 u102) fun _ u104 => k37 x0 (w32 (x1 + 1)) u104)))
def LX7_lays_37 : Nat → Int → Int → Mem → Rz
  | 0, _, _, _ => none
  | n + 1, x0, x1, μ => BX7_lays_37 (fun y0 y1 ν => LX7_lays_37 n y0 y1 ν) x0 x1 μ
def BX7_lays_15 (k15 : Int → Int → Mem → Rz) (x0 x1 : Int) (μ : Mem) : Rz := if 192 ≤ x1 then (LX7_lays_37 FU x0 0 μ) else (GF 7 9 x0 μ fun t101 => AS 1 t101 x1 0 μ fun u102 => k15 x0 (w32 (x1 + 1)) u102)
def LX7_lays_15 : Nat → Int → Int → Mem → Rz
  | 0, _, _, _ => none
  | n + 1, x0, x1, μ => BX7_lays_15 (fun y0 y1 ν => LX7_lays_15 n y0 y1 ν) x0 x1 μ
def BX7_lays_0 (x0 : Int) (μ : Mem) : Rz := GF 7 10 x0 μ fun t101 => if t101 = 0 then (PZ 7 10 x0 1 μ fun u102 => LX7_lays_15 FU x0 0 u102) else (RT 0 μ)
def FX7_lays (a0 : Int) (μ : Mem) : Rz := BX7_lays_0 a0 μ
def BX7_cell_50 (μ : Mem) : Rz := RT 0 μ
def BX7_cell_135 (s0 : Int) (μ : Mem) : Rz := RT s0 μ
def BX7_cell_151 (s0 : Int) (μ : Mem) : Rz := RT s0 μ
def BX7_cell_167 (s0 : Int) (μ : Mem) : Rz := RT s0 μ
def BX7_cell_28 (x0 x1 x2 x3 x4 s0 s1 : Int) (μ : Mem) : Rz := KD 7 s1 μ (CL (FX7_right s1 s0 1 μ) fun t101 u102 => if t101 = 0 then (BX7_cell_50 u102) else (CL (FX7_isIn x4 0 4 u102) fun t103 u104 => KD 7 x0 u104 (CL (FX7_right x0 t103 2 u104) fun t105 u106 => if ¬ t105 = 0 then (KD 7 x0 u106 (CL (FX7_lays x0 u106) fun _ u108 => LT (w32 ((w32 ((w32 (192 * x1)) + (w32 (16 * x3)))) + x2)) fun x109 => SW x4 0 [GF 7 7 x0 u108 fun t112 => AL 1 t112 x109 u108 fun t113 => RT t113 u108, GF 7 8 x0 u108 fun t114 => AL 1 t114 x109 u108 fun t115 => RT t115 u108, KD 7 x0 u108 (CL (FX7_hasDot x0 x1 x2 x3 u108) fun t116 u117 => if t116 = 0 then (BX7_cell_135 0 u117) else (BX7_cell_135 1 u117)), KD 7 x0 u108 (CL (FX7_isSpot x0 x1 x2 x3 u108) fun t118 u119 => if t118 = 0 then (BX7_cell_151 0 u119) else (BX7_cell_151 1 u119))] (KD 7 x0 u108 (CL (FX7_isCleaned x0 x1 x2 x3 u108) fun t110 u111 => if t110 = 0 then (BX7_cell_167 0 u111) else (BX7_cell_167 1 u111))))) else (BX7_cell_50 u106))))
def BX7_cell_27 (x0 x1 x2 x3 x4 s0 : Int) (μ : Mem) : Rz := BX7_cell_28 x0 x1 x2 x3 x4 0 s0 μ
def BX7_cell_0 (x0 x1 x2 x3 x4 : Int) (μ : Mem) : Rz := PF 7 0 x0 0 μ fun u101 => KD 7 x0 u101 (CL (FX7_isPlate x0 x1 u101) fun t102 u103 => if t102 = 0 then (BX7_cell_27 x0 x1 x2 x3 x4 x0 u103) else (KD 7 x0 u103 (CL (FX7_isCell x0 x2 x3 u103) fun t104 u105 => if t104 = 0 then (BX7_cell_27 x0 x1 x2 x3 x4 x0 u105) else (BX7_cell_28 x0 x1 x2 x3 x4 1 x0 u105))))
def FX7_cell (a0 a1 a2 a3 a4 : Int) (μ : Mem) : Rz := BX7_cell_0 a0 a1 a2 a3 a4 μ
def BX7_cellsOf_53 (k8 : Int → Int → Int → Int → Mem → Rz) (k19 : Int → Int → Int → Int → Int → Mem → Rz) (x0 x1 x3 x4 s0 s1 : Int) (μ : Mem) : Rz := LT (w32 (s1 + s0)) fun x101 => k19 x0 x1 x101 x3 (w32 (x4 + 1)) μ
def BX7_cellsOf_19 (k8 : Int → Int → Int → Int → Mem → Rz) (k19 : Int → Int → Int → Int → Int → Mem → Rz) (x0 x1 x2 x3 x4 : Int) (μ : Mem) : Rz := KD 7 x0 μ (CL (FX7_wide x0 μ) fun t101 u102 => if t101 ≤ x4 then (k8 x0 x1 x2 (w32 (x3 + 1)) u102) else (GF 7 9 x0 u102 fun t103 => AL 1 t103 (w32 ((w32 (16 * x3)) + x4)) u102 fun t104 => CL (FX7_bits t104 u102) fun t105 u106 => if ¬ t105 = x1 then (BX7_cellsOf_53 k8 k19 x0 x1 x3 x4 0 x2 u106) else (BX7_cellsOf_53 k8 k19 x0 x1 x3 x4 1 x2 u106)))
def LX7_cellsOf_19 (k8 : Int → Int → Int → Int → Mem → Rz) : Nat → Int → Int → Int → Int → Int → Mem → Rz
  | 0, _, _, _, _, _, _ => none
  | n + 1, x0, x1, x2, x3, x4, μ => BX7_cellsOf_19 k8 (fun y0 y1 y2 y3 y4 ν => LX7_cellsOf_19 k8 n y0 y1 y2 y3 y4 ν) x0 x1 x2 x3 x4 μ
def BX7_cellsOf_8 (k8 : Int → Int → Int → Int → Mem → Rz) (x0 x1 x2 x3 : Int) (μ : Mem) : Rz := KD 7 x0 μ (CL (FX7_high x0 μ) fun t101 u102 => if t101 ≤ x3 then (RT x2 u102) else (LX7_cellsOf_19 k8 FU x0 x1 x2 x3 0 u102))
def LX7_cellsOf_8 : Nat → Int → Int → Int → Int → Mem → Rz
  | 0, _, _, _, _, _ => none
  | n + 1, x0, x1, x2, x3, μ => BX7_cellsOf_8 (fun y0 y1 y2 y3 ν => LX7_cellsOf_8 n y0 y1 y2 y3 ν) x0 x1 x2 x3 μ
def BX7_cellsOf_0 (x0 x1 : Int) (μ : Mem) : Rz := KD 7 x0 μ (CL (FX7_lays x0 μ) fun _ u102 => LX7_cellsOf_8 FU x0 x1 0 0 u102)
def FX7_cellsOf (a0 a1 : Int) (μ : Mem) : Rz := BX7_cellsOf_0 a0 a1 μ
def BX7_cellsWith_28 (s0 : Int) (μ : Mem) : Rz := RT s0 μ
def BX7_cellsWith_0 (x0 x1 : Int) (μ : Mem) : Rz := PF 7 0 x0 0 μ fun u101 => CL (FX7_isIn x1 0 4 u101) fun t102 u103 => KD 7 x0 u103 (CL (FX7_right x0 t102 1 u103) fun t104 u105 => if t104 = 0 then (BX7_cellsWith_28 0 u105) else (KD 7 x0 u105 (CL (FX7_cellsOf x0 x1 u105) fun t106 u107 => BX7_cellsWith_28 t106 u107)))
def FX7_cellsWith (a0 a1 : Int) (μ : Mem) : Rz := BX7_cellsWith_0 a0 a1 μ
def BX7_joins_0 (x0 x2 : Int) (μ : Mem) : Rz := RT (w64 ((w64 (31 * x0)) + x2)) μ
def FX7_joins (a0 a2 : Int) (μ : Mem) : Rz := BX7_joins_0 a0 a2 μ
def BX7_dots_45 (k8 : Int → Int → Int → Int → Mem → Rz) (k19 : Int → Int → Int → Int → Int → Mem → Rz) (x0 x1 x3 x4 s0 s1 : Int) (μ : Mem) : Rz := LT (w32 (s1 + s0)) fun x101 => k19 x0 x1 x101 x3 (w32 (x4 + 1)) μ
def BX7_dots_19 (k8 : Int → Int → Int → Int → Mem → Rz) (k19 : Int → Int → Int → Int → Int → Mem → Rz) (x0 x1 x2 x3 x4 : Int) (μ : Mem) : Rz := KD 7 x0 μ (CL (FX7_wide x0 μ) fun t101 u102 => if t101 ≤ x4 then (k8 x0 x1 x2 (w32 (x3 + 1)) u102) else (KD 7 x0 u102 (CL (FX7_hasDot x0 x1 x4 x3 u102) fun t103 u104 => if t103 = 0 then (BX7_dots_45 k8 k19 x0 x1 x3 x4 0 x2 u104) else (BX7_dots_45 k8 k19 x0 x1 x3 x4 1 x2 u104))))
def LX7_dots_19 (k8 : Int → Int → Int → Int → Mem → Rz) : Nat → Int → Int → Int → Int → Int → Mem → Rz
  | 0, _, _, _, _, _, _ => none
  | n + 1, x0, x1, x2, x3, x4, μ => BX7_dots_19 k8 (fun y0 y1 y2 y3 y4 ν => LX7_dots_19 k8 n y0 y1 y2 y3 y4 ν) x0 x1 x2 x3 x4 μ
def BX7_dots_8 (k8 : Int → Int → Int → Int → Mem → Rz) (x0 x1 x2 x3 : Int) (μ : Mem) : Rz := KD 7 x0 μ (CL (FX7_high x0 μ) fun t101 u102 => if t101 ≤ x3 then (RT x2 u102) else (LX7_dots_19 k8 FU x0 x1 x2 x3 0 u102))
def LX7_dots_8 : Nat → Int → Int → Int → Int → Mem → Rz
  | 0, _, _, _, _, _ => none
  | n + 1, x0, x1, x2, x3, μ => BX7_dots_8 (fun y0 y1 y2 y3 ν => LX7_dots_8 n y0 y1 y2 y3 ν) x0 x1 x2 x3 μ
def BX7_dots_0 (x0 x1 : Int) (μ : Mem) : Rz := KD 7 x0 μ (CL (FX7_lays x0 μ) fun _ u102 => LX7_dots_8 FU x0 x1 0 0 u102)
def FX7_dots (a0 a1 : Int) (μ : Mem) : Rz := BX7_dots_0 a0 a1 μ
def BX7_allDots_4 (k4 : Int → Int → Int → Mem → Rz) (x0 x1 x2 : Int) (μ : Mem) : Rz := KD 7 x0 μ (CL (FX7_plates x0 μ) fun t101 u102 => if t101 ≤ x2 then (RT x1 u102) else (KD 7 x0 u102 (CL (FX7_dots x0 x2 u102) fun t103 u104 => LT (w32 (x1 + t103)) fun x105 => k4 x0 x105 (w32 (x2 + 1)) u104)))
def LX7_allDots_4 : Nat → Int → Int → Int → Mem → Rz
  | 0, _, _, _, _ => none
  | n + 1, x0, x1, x2, μ => BX7_allDots_4 (fun y0 y1 y2 ν => LX7_allDots_4 n y0 y1 y2 ν) x0 x1 x2 μ
def BX7_allDots_0 (x0 : Int) (μ : Mem) : Rz := LX7_allDots_4 FU x0 0 0 μ
def FX7_allDots (a0 : Int) (μ : Mem) : Rz := BX7_allDots_0 a0 μ
def BX7_cleaned_4 (k4 : Int → Int → Int → Int → Mem → Rz) (x0 x1 x2 x3 : Int) (μ : Mem) : Rz := KD 7 x0 μ (CL (FX7_high x0 μ) fun t101 u102 => if t101 ≤ x3 then (RT x2 u102) else (KD 7 x0 u102 (CL (FX7_of x0 x1 (w32 (14 + x3)) u102) fun t103 u104 => CL (FX7_bits t103 u104) fun t105 u106 => LT (w32 (x2 + t105)) fun x107 => k4 x0 x1 x107 (w32 (x3 + 1)) u106)))
def LX7_cleaned_4 : Nat → Int → Int → Int → Int → Mem → Rz
  | 0, _, _, _, _, _ => none
  | n + 1, x0, x1, x2, x3, μ => BX7_cleaned_4 (fun y0 y1 y2 y3 ν => LX7_cleaned_4 n y0 y1 y2 y3 ν) x0 x1 x2 x3 μ
def BX7_cleaned_0 (x0 x1 : Int) (μ : Mem) : Rz := LX7_cleaned_4 FU x0 x1 0 0 μ
def FX7_cleaned (a0 a1 : Int) (μ : Mem) : Rz := BX7_cleaned_0 a0 a1 μ
def BX7_toldOf_99 (s0 : Int) (μ : Mem) : Rz := RT s0 μ
def BX7_toldOf_115 (k104 : Int → Int → Int → Mem → Rz) (k115 : Int → Int → Int → Int → Mem → Rz) (x0 x2 x3 x4 : Int) (μ : Mem) : Rz := KD 7 x0 μ (CL (FX7_wide x0 μ) fun t101 u102 => if t101 ≤ x4 then (k104 x0 x2 (w32 (x3 + 1)) u102) else (KD 7 x0 u102 (CL (FX7_toneAt x0 x4 x3 u102) fun t103 u104 => LT (w32 (x2 + t103)) fun x105 => k115 x0 x105 x3 (w32 (x4 + 1)) u104)))
def LX7_toldOf_115 (k104 : Int → Int → Int → Mem → Rz) : Nat → Int → Int → Int → Int → Mem → Rz
  | 0, _, _, _, _, _ => none
  | n + 1, x0, x2, x3, x4, μ => BX7_toldOf_115 k104 (fun y0 y2 y3 y4 ν => LX7_toldOf_115 k104 n y0 y2 y3 y4 ν) x0 x2 x3 x4 μ
def BX7_toldOf_104 (k104 : Int → Int → Int → Mem → Rz) (x0 x2 x3 : Int) (μ : Mem) : Rz := KD 7 x0 μ (CL (FX7_high x0 μ) fun t101 u102 => if t101 ≤ x3 then (RT x2 u102) else (LX7_toldOf_115 k104 FU x0 x2 x3 0 u102))
def LX7_toldOf_104 : Nat → Int → Int → Int → Mem → Rz
  | 0, _, _, _, _ => none
  | n + 1, x0, x2, x3, μ => BX7_toldOf_104 (fun y0 y2 y3 ν => LX7_toldOf_104 n y0 y2 y3 ν) x0 x2 x3 μ
def BX7_toldOf_152 (k152 : Int → Int → Int → Mem → Rz) (x0 x2 x3 : Int) (μ : Mem) : Rz := KD 7 x0 μ (CL (FX7_plates x0 μ) fun t101 u102 => if t101 ≤ x3 then (RT x2 u102) else (KD 7 x0 u102 (CL (FX7_cleaned x0 x3 u102) fun t103 u104 => LT (w32 (x2 + t103)) fun x105 => k152 x0 x105 (w32 (x3 + 1)) u104)))
def LX7_toldOf_152 : Nat → Int → Int → Int → Mem → Rz
  | 0, _, _, _, _ => none
  | n + 1, x0, x2, x3, μ => BX7_toldOf_152 (fun y0 y2 y3 ν => LX7_toldOf_152 n y0 y2 y3 ν) x0 x2 x3 μ
def BX7_toldOf_0 (x0 x1 : Int) (μ : Mem) : Rz := SW x1 0 [KD 7 x0 μ (CL (FX7_wide x0 μ) fun t101 u102 => RT t101 u102), KD 7 x0 μ (CL (FX7_high x0 μ) fun t103 u104 => RT t103 u104), KD 7 x0 μ (CL (FX7_plates x0 μ) fun t105 u106 => RT t105 u106), KD 7 x0 μ (CL (FX7_get x0 3 μ) fun t107 u108 => RT t107 u108), KD 7 x0 μ (CL (FX7_allDots x0 μ) fun t109 u110 => RT t109 u110), KD 7 x0 μ (CL (FX7_cellsOf x0 0 μ) fun t111 u112 => RT t111 u112), KD 7 x0 μ (CL (FX7_plates x0 μ) fun t113 u114 => if ¬ t113 = 0 then (KD 7 x0 u114 (CL (FX7_plates x0 u114) fun t115 u116 => KD 7 x0 u116 (CL (FX7_cellsOf x0 t115 u116) fun t117 u118 => BX7_toldOf_99 t117 u118))) else (BX7_toldOf_99 0 u114)), LX7_toldOf_104 FU x0 0 0 μ] (LX7_toldOf_152 FU x0 0 0 μ)
def FX7_toldOf (a0 a1 : Int) (μ : Mem) : Rz := BX7_toldOf_0 a0 a1 μ
def BX7_blocks_0 (x0 x1 : Int) (μ : Mem) : Rz := KD 7 x0 μ (CL (FX7_wide x0 μ) fun t101 u102 => KD 7 x0 u102 (CL (FX7_squareOf x0 x1 u102) fun t103 u104 => DV t101 t103 fun t105 => KD 7 x0 u104 (CL (FX7_high x0 u104) fun t106 u107 => KD 7 x0 u107 (CL (FX7_squareOf x0 x1 u107) fun t108 u109 => DV t106 t108 fun t110 => RT (w32 (t105 * t110)) u109))))
def FX7_blocks (a0 a1 : Int) (μ : Mem) : Rz := BX7_blocks_0 a0 a1 μ
def BX7_spots_45 (k8 : Int → Int → Int → Int → Mem → Rz) (k19 : Int → Int → Int → Int → Int → Mem → Rz) (x0 x1 x3 x4 s0 s1 : Int) (μ : Mem) : Rz := LT (w32 (s1 + s0)) fun x101 => k19 x0 x1 x101 x3 (w32 (x4 + 1)) μ
def BX7_spots_19 (k8 : Int → Int → Int → Int → Mem → Rz) (k19 : Int → Int → Int → Int → Int → Mem → Rz) (x0 x1 x2 x3 x4 : Int) (μ : Mem) : Rz := KD 7 x0 μ (CL (FX7_wide x0 μ) fun t101 u102 => if t101 ≤ x4 then (k8 x0 x1 x2 (w32 (x3 + 1)) u102) else (KD 7 x0 u102 (CL (FX7_isSpot x0 x1 x4 x3 u102) fun t103 u104 => if t103 = 0 then (BX7_spots_45 k8 k19 x0 x1 x3 x4 0 x2 u104) else (BX7_spots_45 k8 k19 x0 x1 x3 x4 1 x2 u104))))
def LX7_spots_19 (k8 : Int → Int → Int → Int → Mem → Rz) : Nat → Int → Int → Int → Int → Int → Mem → Rz
  | 0, _, _, _, _, _, _ => none
  | n + 1, x0, x1, x2, x3, x4, μ => BX7_spots_19 k8 (fun y0 y1 y2 y3 y4 ν => LX7_spots_19 k8 n y0 y1 y2 y3 y4 ν) x0 x1 x2 x3 x4 μ
def BX7_spots_8 (k8 : Int → Int → Int → Int → Mem → Rz) (x0 x1 x2 x3 : Int) (μ : Mem) : Rz := KD 7 x0 μ (CL (FX7_high x0 μ) fun t101 u102 => if t101 ≤ x3 then (RT x2 u102) else (LX7_spots_19 k8 FU x0 x1 x2 x3 0 u102))
def LX7_spots_8 : Nat → Int → Int → Int → Int → Mem → Rz
  | 0, _, _, _, _, _ => none
  | n + 1, x0, x1, x2, x3, μ => BX7_spots_8 (fun y0 y1 y2 y3 ν => LX7_spots_8 n y0 y1 y2 y3 ν) x0 x1 x2 x3 μ
def BX7_spots_0 (x0 x1 : Int) (μ : Mem) : Rz := KD 7 x0 μ (CL (FX7_lays x0 μ) fun _ u102 => LX7_spots_8 FU x0 x1 0 0 u102)
def FX7_spots (a0 a1 : Int) (μ : Mem) : Rz := BX7_spots_0 a0 a1 μ
def BX7_sumOn_19 (k8 : Int → Int → Int → Int → Mem → Rz) (k19 : Int → Int → Int → Int → Int → Mem → Rz) (x0 x1 x2 x3 x4 : Int) (μ : Mem) : Rz := KD 7 x0 μ (CL (FX7_wide x0 μ) fun t101 u102 => if t101 ≤ x4 then (k8 x0 x1 x2 (w32 (x3 + 1)) u102) else (GF 7 8 x0 u102 fun t103 => AL 1 t103 (w32 ((w32 ((w32 (192 * x1)) + (w32 (16 * x3)))) + x4)) u102 fun t104 => LT (w32 (x2 + t104)) fun x105 => k19 x0 x1 x105 x3 (w32 (x4 + 1)) u102))
def LX7_sumOn_19 (k8 : Int → Int → Int → Int → Mem → Rz) : Nat → Int → Int → Int → Int → Int → Mem → Rz
  | 0, _, _, _, _, _, _ => none
  | n + 1, x0, x1, x2, x3, x4, μ => BX7_sumOn_19 k8 (fun y0 y1 y2 y3 y4 ν => LX7_sumOn_19 k8 n y0 y1 y2 y3 y4 ν) x0 x1 x2 x3 x4 μ
def BX7_sumOn_8 (k8 : Int → Int → Int → Int → Mem → Rz) (x0 x1 x2 x3 : Int) (μ : Mem) : Rz := KD 7 x0 μ (CL (FX7_high x0 μ) fun t101 u102 => if t101 ≤ x3 then (RT x2 u102) else (LX7_sumOn_19 k8 FU x0 x1 x2 x3 0 u102))
def LX7_sumOn_8 : Nat → Int → Int → Int → Int → Mem → Rz
  | 0, _, _, _, _, _ => none
  | n + 1, x0, x1, x2, x3, μ => BX7_sumOn_8 (fun y0 y1 y2 y3 ν => LX7_sumOn_8 n y0 y1 y2 y3 ν) x0 x1 x2 x3 μ
def BX7_sumOn_0 (x0 x1 : Int) (μ : Mem) : Rz := KD 7 x0 μ (CL (FX7_lays x0 μ) fun _ u102 => LX7_sumOn_8 FU x0 x1 0 0 u102)
def FX7_sumOn (a0 a1 : Int) (μ : Mem) : Rz := BX7_sumOn_0 a0 a1 μ
def BX7_toldOfPlate_0 (x0 x1 x2 : Int) (μ : Mem) : Rz := SW x2 0 [KD 7 x0 μ (CL (FX7_of x0 x1 7 μ) fun t103 u104 => RT t103 u104), KD 7 x0 μ (CL (FX7_of x0 x1 8 μ) fun t105 u106 => RT t105 u106), KD 7 x0 μ (CL (FX7_squareOf x0 x1 μ) fun t107 u108 => RT t107 u108), KD 7 x0 μ (CL (FX7_of x0 x1 9 μ) fun t109 u110 => RT t109 u110), KD 7 x0 μ (CL (FX7_of x0 x1 10 μ) fun t111 u112 => RT t111 u112), KD 7 x0 μ (CL (FX7_of x0 x1 11 μ) fun t113 u114 => RT t113 u114), KD 7 x0 μ (CL (FX7_of x0 x1 12 μ) fun t115 u116 => RT t115 u116), KD 7 x0 μ (CL (FX7_dots x0 x1 μ) fun t117 u118 => RT t117 u118), KD 7 x0 μ (CL (FX7_spots x0 x1 μ) fun t119 u120 => RT t119 u120), KD 7 x0 μ (CL (FX7_blocks x0 x1 μ) fun t121 u122 => RT t121 u122)] (KD 7 x0 μ (CL (FX7_sumOn x0 x1 μ) fun t101 u102 => RT t101 u102))
def FX7_toldOfPlate (a0 a1 a2 : Int) (μ : Mem) : Rz := BX7_toldOfPlate_0 a0 a1 a2 μ
def BX7_checksum_94 (k83 : Int → Int → Int → Mem → Rz) (k94 : Int → Int → Int → Int → Mem → Rz) (x0 x1 x3 x4 : Int) (μ : Mem) : Rz := KD 7 x0 μ (CL (FX7_wide x0 μ) fun t101 u102 => if t101 ≤ x4 then (k83 x0 x1 (w32 (x3 + 1)) u102) else (KD 7 x0 u102 (CL (FX7_toneAt x0 x4 x3 u102) fun t103 u104 => CL (FX7_joins x1 t103 u104) fun t105 u106 => GF 7 9 x0 u106 fun t107 => AL 1 t107 (w32 ((w32 (16 * x3)) + x4)) u106 fun t108 => CL (FX7_joins t105 t108 u106) fun t109 u110 => k94 x0 t109 x3 (w32 (x4 + 1)) u110)))
def LX7_checksum_94 (k83 : Int → Int → Int → Mem → Rz) : Nat → Int → Int → Int → Int → Mem → Rz
  | 0, _, _, _, _, _ => none
  | n + 1, x0, x1, x3, x4, μ => BX7_checksum_94 k83 (fun y0 y1 y3 y4 ν => LX7_checksum_94 k83 n y0 y1 y3 y4 ν) x0 x1 x3 x4 μ
def BX7_checksum_83 (k83 : Int → Int → Int → Mem → Rz) (x0 x1 x3 : Int) (μ : Mem) : Rz := KD 7 x0 μ (CL (FX7_high x0 μ) fun t101 u102 => if t101 ≤ x3 then (RT x1 u102) else (LX7_checksum_94 k83 FU x0 x1 x3 0 u102))
def LX7_checksum_83 : Nat → Int → Int → Int → Mem → Rz
  | 0, _, _, _, _ => none
  | n + 1, x0, x1, x3, μ => BX7_checksum_83 (fun y0 y1 y3 ν => LX7_checksum_83 n y0 y1 y3 ν) x0 x1 x3 μ
def BX7_checksum_49 (k38 : Int → Int → Int → Mem → Rz) (k49 : Int → Int → Int → Int → Mem → Rz) (x0 x1 x3 x4 : Int) (μ : Mem) : Rz := if 11 ≤ x4 then (k38 x0 x1 (w32 (x3 + 1)) μ) else (KD 7 x0 μ (CL (FX7_toldOfPlate x0 x3 x4 μ) fun t101 u102 => CL (FX7_joins x1 t101 u102) fun t103 u104 => k49 x0 t103 x3 (w32 (x4 + 1)) u104))
def LX7_checksum_49 (k38 : Int → Int → Int → Mem → Rz) : Nat → Int → Int → Int → Int → Mem → Rz
  | 0, _, _, _, _, _ => none
  | n + 1, x0, x1, x3, x4, μ => BX7_checksum_49 k38 (fun y0 y1 y3 y4 ν => LX7_checksum_49 k38 n y0 y1 y3 y4 ν) x0 x1 x3 x4 μ
def BX7_checksum_38 (k38 : Int → Int → Int → Mem → Rz) (x0 x1 x3 : Int) (μ : Mem) : Rz := KD 7 x0 μ (CL (FX7_plates x0 μ) fun t101 u102 => if t101 ≤ x3 then (LX7_checksum_83 FU x0 x1 0 u102) else (LX7_checksum_49 k38 FU x0 x1 x3 0 u102))
def LX7_checksum_38 : Nat → Int → Int → Int → Mem → Rz
  | 0, _, _, _, _ => none
  | n + 1, x0, x1, x3, μ => BX7_checksum_38 (fun y0 y1 y3 ν => LX7_checksum_38 n y0 y1 y3 ν) x0 x1 x3 μ
def BX7_checksum_13 (k13 : Int → Int → Int → Mem → Rz) (x0 x1 x3 : Int) (μ : Mem) : Rz := if 9 ≤ x3 then (LX7_checksum_38 FU x0 x1 0 μ) else (KD 7 x0 μ (CL (FX7_toldOf x0 x3 μ) fun t101 u102 => CL (FX7_joins x1 t101 u102) fun t103 u104 => k13 x0 t103 (w32 (x3 + 1)) u104))
def LX7_checksum_13 : Nat → Int → Int → Int → Mem → Rz
  | 0, _, _, _, _ => none
  | n + 1, x0, x1, x3, μ => BX7_checksum_13 (fun y0 y1 y3 ν => LX7_checksum_13 n y0 y1 y3 ν) x0 x1 x3 μ
def BX7_checksum_0 (x0 : Int) (μ : Mem) : Rz := PF 7 0 x0 0 μ fun u101 => KD 7 x0 u101 (CL (FX7_lays x0 u101) fun _ u103 => LX7_checksum_13 FU x0 0 0 u103)
def FX7_checksum (a0 : Int) (μ : Mem) : Rz := BX7_checksum_0 a0 μ
def BX7_change_70 (x0 s0 s1 : Int) (μ : Mem) : Rz := PF 7 4 s1 s0 μ fun u101 => PZ 7 10 x0 0 u101 fun u102 => RT 0 u102
def BX7_change_12 (k12 : Int → Int → Int → Mem → Rz) (x0 x1 x2 : Int) (μ : Mem) : Rz := if 5100 ≤ x2 then (PF 7 3 x0 x1 μ fun u101 => GF 7 4 x0 u101 fun t102 => if 8 ≤ t102 then (GF 7 4 x0 u101 fun t103 => BX7_change_70 x0 t103 x0 u101) else (GF 7 4 x0 u101 fun t104 => BX7_change_70 x0 (w32 (t104 + 1)) x0 u101)) else (GF 7 1 x0 μ fun t105 => KD 7 x0 μ (CL (FX7_get x0 x2 μ) fun t106 u107 => AS 1 t105 (w32 ((w32 (5100 * x1)) + x2)) t106 u107 fun u108 => k12 x0 x1 (w32 (x2 + 1)) u108))
def LX7_change_12 : Nat → Int → Int → Int → Mem → Rz
  | 0, _, _, _, _ => none
  | n + 1, x0, x1, x2, μ => BX7_change_12 (fun y0 y1 y2 ν => LX7_change_12 n y0 y1 y2 ν) x0 x1 x2 μ
def BX7_change_0 (x0 : Int) (μ : Mem) : Rz := GF 7 3 x0 μ fun t101 => RM (w32 (t101 + 1)) 9 fun t102 => LX7_change_12 FU x0 t102 0 μ
def FX7_change (a0 : Int) (μ : Mem) : Rz := BX7_change_0 a0 μ
def BX7_put_0 (x0 x1 x2 : Int) (μ : Mem) : Rz := GF 7 1 x0 μ fun t101 => GF 7 3 x0 μ fun t102 => AS 1 t101 (w32 ((w32 (5100 * t102)) + x1)) x2 μ fun u103 => RT 0 u103
def FX7_put (a0 a1 a2 : Int) (μ : Mem) : Rz := BX7_put_0 a0 a1 a2 μ
def BX7_puts_0 (x0 x1 x2 x3 : Int) (μ : Mem) : Rz := KD 7 x0 μ (CL (FX7_put x0 (w32 ((w32 (196 + (w32 (1226 * x1)))) + x2)) x3 μ) fun _ u102 => RT 0 u102)
def FX7_puts (a0 a1 a2 a3 : Int) (μ : Mem) : Rz := BX7_puts_0 a0 a1 a2 a3 μ
def BX7_clean_113 (k113 : Int → Int → Int → Int → Mem → Rz) (x0 x1 x2 x3 : Int) (μ : Mem) : Rz := KD 7 x0 μ (CL (FX7_high x0 μ) fun t101 u102 => if t101 ≤ x3 then (RT x2 u102) else (KD 7 x0 u102 (CL (FX7_of x0 x1 (w32 (14 + x3)) u102) fun t103 u104 => GF 7 23 x0 u104 fun t105 => AL 1 t105 x3 u104 fun t106 => KD 7 x0 u104 (CL (FX7_puts x0 x1 (w32 (14 + x3)) (bOr t103 t106) u104) fun _ u108 => k113 x0 x1 x2 (w32 (x3 + 1)) u108))))
def LX7_clean_113 : Nat → Int → Int → Int → Int → Mem → Rz
  | 0, _, _, _, _, _ => none
  | n + 1, x0, x1, x2, x3, μ => BX7_clean_113 (fun y0 y1 y2 y3 ν => LX7_clean_113 n y0 y1 y2 y3 ν) x0 x1 x2 x3 μ
def BX7_clean_81 (k28 : Int → Int → Int → Int → Mem → Rz) (k46 : Int → Int → Int → Int → Int → Mem → Rz) (x0 x1 x2 x3 x4 s0 s1 s2 s3 : Int) (μ : Mem) : Rz := AS 1 s3 s2 (bOr s1 s0) μ fun u101 => k46 x0 x1 x2 x3 (w32 (x4 + 1)) u101
def BX7_clean_46 (k28 : Int → Int → Int → Int → Mem → Rz) (k46 : Int → Int → Int → Int → Int → Mem → Rz) (x0 x1 x2 x3 x4 : Int) (μ : Mem) : Rz := KD 7 x0 μ (CL (FX7_wide x0 μ) fun t101 u102 => if t101 ≤ x4 then (GF 7 23 x0 u102 fun t103 => AL 1 t103 x3 u102 fun t104 => CL (FX7_bits t104 u102) fun t105 u106 => LT (w32 (x2 + t105)) fun x107 => k28 x0 x1 x107 (w32 (x3 + 1)) u106) else (GF 7 23 x0 u102 fun t108 => AL 1 t108 x3 u102 fun t109 => KD 7 x0 u102 (CL (FX7_isSpot x0 x1 x4 x3 u102) fun t110 u111 => if t110 = 0 then (BX7_clean_81 k28 k46 x0 x1 x2 x3 x4 0 t109 x3 t108 u111) else (BX7_clean_81 k28 k46 x0 x1 x2 x3 x4 (bShl 1 x4) t109 x3 t108 u111))))
def LX7_clean_46 (k28 : Int → Int → Int → Int → Mem → Rz) : Nat → Int → Int → Int → Int → Int → Mem → Rz
  | 0, _, _, _, _, _, _ => none
  | n + 1, x0, x1, x2, x3, x4, μ => BX7_clean_46 k28 (fun y0 y1 y2 y3 y4 ν => LX7_clean_46 k28 n y0 y1 y2 y3 y4 ν) x0 x1 x2 x3 x4 μ
def BX7_clean_28 (k28 : Int → Int → Int → Int → Mem → Rz) (x0 x1 x2 x3 : Int) (μ : Mem) : Rz := KD 7 x0 μ (CL (FX7_high x0 μ) fun t101 u102 => if t101 ≤ x3 then (KD 7 x0 u102 (CL (FX7_change x0 u102) fun _ u104 => LX7_clean_113 FU x0 x1 x2 0 u104)) else (GF 7 23 x0 u102 fun t105 => AS 1 t105 x3 0 u102 fun u106 => LX7_clean_46 k28 FU x0 x1 x2 x3 0 u106))
def LX7_clean_28 : Nat → Int → Int → Int → Int → Mem → Rz
  | 0, _, _, _, _, _ => none
  | n + 1, x0, x1, x2, x3, μ => BX7_clean_28 (fun y0 y1 y2 y3 ν => LX7_clean_28 n y0 y1 y2 y3 ν) x0 x1 x2 x3 μ
def BX7_clean_0 (x0 x1 : Int) (μ : Mem) : Rz := PF 7 0 x0 0 μ fun u101 => KD 7 x0 u101 (CL (FX7_isPlate x0 x1 u101) fun t102 u103 => KD 7 x0 u103 (CL (FX7_right x0 t102 1 u103) fun t104 u105 => if ¬ t104 = 0 then (KD 7 x0 u105 (CL (FX7_lays x0 u105) fun _ u107 => LX7_clean_28 FU x0 x1 0 0 u107)) else (RT 0 u105)))
def FX7_clean (a0 a1 : Int) (μ : Mem) : Rz := BX7_clean_0 a0 a1 μ
def BX7_possible_54 (k4 : Int → Int → Int → Mem → Rz) (x0 x1 x2 : Int) (μ : Mem) : Rz := k4 x0 x1 (w32 (x2 + 1)) μ
def BX7_possible_53 (k4 : Int → Int → Int → Mem → Rz) (x0 x2 s0 : Int) (μ : Mem) : Rz := BX7_possible_54 k4 x0 s0 x2 μ
def BX7_possible_47 (k4 : Int → Int → Int → Mem → Rz) (x0 x2 x4 : Int) (μ : Mem) : Rz := BX7_possible_53 k4 x0 x2 x4 μ
def BX7_possible_4 (k4 : Int → Int → Int → Mem → Rz) (x0 x1 x2 : Int) (μ : Mem) : Rz := KD 7 x0 μ (CL (FX7_plates x0 μ) fun t101 u102 => if t101 ≤ x2 then (RT x1 u102) else (KD 7 x0 u102 (CL (FX7_dots x0 x2 u102) fun t103 u104 => if ¬ t103 = 0 then (KD 7 x0 u104 (CL (FX7_of x0 x2 12 u104) fun t105 u106 => DV t105 t103 fun t107 => if x1 = (-1) then (BX7_possible_47 k4 x0 x2 t107 u106) else (if x1 ≤ t107 then (BX7_possible_53 k4 x0 x2 x1 u106) else (BX7_possible_47 k4 x0 x2 t107 u106)))) else (BX7_possible_54 k4 x0 x1 x2 u104))))
def LX7_possible_4 : Nat → Int → Int → Int → Mem → Rz
  | 0, _, _, _, _ => none
  | n + 1, x0, x1, x2, μ => BX7_possible_4 (fun y0 y1 y2 ν => LX7_possible_4 n y0 y1 y2 ν) x0 x1 x2 μ
def BX7_possible_0 (x0 : Int) (μ : Mem) : Rz := LX7_possible_4 FU x0 (-1) 0 μ
def FX7_possible (a0 : Int) (μ : Mem) : Rz := BX7_possible_0 a0 μ
def BX7_copies_0 (x0 : Int) (μ : Mem) : Rz := PF 7 0 x0 0 μ fun u101 => KD 7 x0 u101 (CL (FX7_possible x0 u101) fun t102 u103 => RT t102 u103)
def FX7_copies (a0 : Int) (μ : Mem) : Rz := BX7_copies_0 a0 μ
def BX7_covered_39 (s0 : Int) (μ : Mem) : Rz := RT s0 μ
def BX7_covered_0 (x0 x1 : Int) (μ : Mem) : Rz := PF 7 0 x0 0 μ fun u101 => KD 7 x0 u101 (CL (FX7_isPlate x0 x1 u101) fun t102 u103 => KD 7 x0 u103 (CL (FX7_right x0 t102 1 u103) fun t104 u105 => if t104 = 0 then (BX7_covered_39 0 u105) else (KD 7 x0 u105 (CL (FX7_dots x0 x1 u105) fun t106 u107 => KD 7 x0 u107 (CL (FX7_wide x0 u107) fun t108 u109 => KD 7 x0 u109 (CL (FX7_high x0 u109) fun t110 u111 => FD (fOf t106) (fOf (w32 (t108 * t110))) fun t112 => BX7_covered_39 t112 u111))))))
def FX7_covered (a0 a1 : Int) (μ : Mem) : Rz := BX7_covered_0 a0 a1 μ
def BX7_dirty_32 (k32 : Int → Int → Int → Int → Mem → Rz) (x0 x1 x2 x3 : Int) (μ : Mem) : Rz := if 12 ≤ x3 then (RT x2 μ) else (KD 7 x0 μ (CL (FX7_puts x0 x1 (w32 (14 + x3)) 0 μ) fun _ u102 => k32 x0 x1 x2 (w32 (x3 + 1)) u102))
def LX7_dirty_32 : Nat → Int → Int → Int → Int → Mem → Rz
  | 0, _, _, _, _, _ => none
  | n + 1, x0, x1, x2, x3, μ => BX7_dirty_32 (fun y0 y1 y2 y3 ν => LX7_dirty_32 n y0 y1 y2 y3 ν) x0 x1 x2 x3 μ
def BX7_dirty_0 (x0 x1 : Int) (μ : Mem) : Rz := PF 7 0 x0 0 μ fun u101 => KD 7 x0 u101 (CL (FX7_isPlate x0 x1 u101) fun t102 u103 => KD 7 x0 u103 (CL (FX7_right x0 t102 1 u103) fun t104 u105 => if ¬ t104 = 0 then (KD 7 x0 u105 (CL (FX7_change x0 u105) fun _ u107 => KD 7 x0 u107 (CL (FX7_cleaned x0 x1 u107) fun t108 u109 => LX7_dirty_32 FU x0 x1 t108 0 u109))) else (RT 0 u105)))
def FX7_dirty (a0 a1 : Int) (μ : Mem) : Rz := BX7_dirty_0 a0 a1 μ
def BX7_errorOffset_0 (x0 : Int) (μ : Mem) : Rz := PF 7 0 x0 0 μ fun u101 => GF 7 16 x0 u101 fun t102 => RT t102 u101
def FX7_errorOffset (a0 : Int) (μ : Mem) : Rz := BX7_errorOffset_0 a0 μ
def BX7_fill_34 (μ : Mem) : Rz := RT 0 μ
def BX7_fill_0 (x0 x1 x2 : Int) (μ : Mem) : Rz := PF 7 0 x0 0 μ fun u101 => KD 7 x0 u101 (CL (FX7_isPlate x0 x1 u101) fun t102 u103 => KD 7 x0 u103 (CL (FX7_right x0 t102 1 u103) fun t104 u105 => if t104 = 0 then (BX7_fill_34 u105) else (CL (FX7_isIn x2 1 9999 u105) fun t106 u107 => KD 7 x0 u107 (CL (FX7_right x0 t106 2 u107) fun t108 u109 => if ¬ t108 = 0 then (KD 7 x0 u109 (CL (FX7_change x0 u109) fun _ u111 => KD 7 x0 u111 (CL (FX7_of x0 x1 12 u111) fun t112 u113 => CL (FJ9_min_7cf53 99999 (w32 (t112 + x2)) u113) fun t114 u115 => KD 7 x0 u115 (CL (FX7_puts x0 x1 12 t114 u115) fun _ u117 => KD 7 x0 u117 (CL (FX7_of x0 x1 12 u117) fun t118 u119 => RT t118 u119))))) else (BX7_fill_34 u109)))))
def FX7_fill (a0 a1 a2 : Int) (μ : Mem) : Rz := BX7_fill_0 a0 a1 a2 μ
def BX7_find_94 (k26 : Int → Int → Int → Mem → Rz) (x0 x1 x2 x3 : Int) (μ : Mem) : Rz := if x3 = 0 then (k26 x0 x1 (w32 (x2 + 1)) μ) else (RT x2 μ)
def BX7_find_87 (k26 : Int → Int → Int → Mem → Rz) (k53 : Int → Int → Int → Int → Int → Mem → Rz) (x0 x1 x2 x4 s0 : Int) (μ : Mem) : Rz := k53 x0 x1 x2 s0 (w32 (x4 + 1)) μ
def BX7_find_53 (k26 : Int → Int → Int → Mem → Rz) (k53 : Int → Int → Int → Int → Int → Mem → Rz) (x0 x1 x2 x3 x4 : Int) (μ : Mem) : Rz := if x1 ≤ x4 then (BX7_find_94 k26 x0 x1 x2 x3 μ) else (if x3 = 0 then (BX7_find_94 k26 x0 x1 x2 x3 μ) else (KD 7 x0 μ (CL (FX7_of x0 x2 (w32 (1 + x4)) μ) fun t101 u102 => GF 7 11 x0 u102 fun t103 => AL 1 t103 x4 u102 fun t104 => if ¬ t101 = t104 then (BX7_find_87 k26 k53 x0 x1 x2 x4 0 u102) else (BX7_find_87 k26 k53 x0 x1 x2 x4 1 u102))))
def LX7_find_53 (k26 : Int → Int → Int → Mem → Rz) : Nat → Int → Int → Int → Int → Int → Mem → Rz
  | 0, _, _, _, _, _, _ => none
  | n + 1, x0, x1, x2, x3, x4, μ => BX7_find_53 k26 (fun y0 y1 y2 y3 y4 ν => LX7_find_53 k26 n y0 y1 y2 y3 y4 ν) x0 x1 x2 x3 x4 μ
def BX7_find_49 (k26 : Int → Int → Int → Mem → Rz) (x0 x1 x2 s0 : Int) (μ : Mem) : Rz := LX7_find_53 k26 FU x0 x1 x2 s0 0 μ
def BX7_find_26 (k26 : Int → Int → Int → Mem → Rz) (x0 x1 x2 : Int) (μ : Mem) : Rz := KD 7 x0 μ (CL (FX7_plates x0 μ) fun t101 u102 => if t101 ≤ x2 then (RT (-1) u102) else (KD 7 x0 u102 (CL (FX7_of x0 x2 0 u102) fun t103 u104 => if ¬ t103 = x1 then (BX7_find_49 k26 x0 x1 x2 0 u104) else (BX7_find_49 k26 x0 x1 x2 1 u104))))
def LX7_find_26 : Nat → Int → Int → Int → Mem → Rz
  | 0, _, _, _, _ => none
  | n + 1, x0, x1, x2, μ => BX7_find_26 (fun y0 y1 y2 ν => LX7_find_26 n y0 y1 y2 ν) x0 x1 x2 μ
def BX7_find_0 (x0 x1 : Int) (μ : Mem) : Rz := PF 7 0 x0 0 μ fun u101 => GF 7 12 x0 u101 fun t102 => CL (FX7_isIn x1 0 t102 u101) fun t103 u104 => KD 7 x0 u104 (CL (FX7_right x0 t103 1 u104) fun t105 u106 => if ¬ t105 = 0 then (LX7_find_26 FU x0 x1 0 u106) else (RT 0 u106))
def FX7_find (a0 a1 : Int) (μ : Mem) : Rz := BX7_find_0 a0 a1 μ
def BX7_begins_2 (k2 : Int → Int → Int → Int → Mem → Rz) (x0 x1 x2 x3 : Int) (μ : Mem) : Rz := if 5100 ≤ x3 then (GF 7 2 x0 μ fun t101 => AS 1 t101 0 x1 μ fun u102 => GF 7 2 x0 u102 fun t103 => AS 1 t103 1 x2 u102 fun u104 => GF 7 2 x0 u104 fun t105 => AS 1 t105 3 4 u104 fun u106 => RT 0 u106) else (GF 7 2 x0 μ fun t107 => AS 1 t107 x3 0 μ fun u108 => k2 x0 x1 x2 (w32 (x3 + 1)) u108)
def LX7_begins_2 : Nat → Int → Int → Int → Int → Mem → Rz
  | 0, _, _, _, _, _ => none
  | n + 1, x0, x1, x2, x3, μ => BX7_begins_2 (fun y0 y1 y2 y3 ν => LX7_begins_2 n y0 y1 y2 y3 ν) x0 x1 x2 x3 μ
def BX7_begins_0 (x0 x1 x2 : Int) (μ : Mem) : Rz := LX7_begins_2 FU x0 x1 x2 0 μ
def FX7_begins (a0 a1 a2 : Int) (μ : Mem) : Rz := BX7_begins_0 a0 a1 a2 μ
def BX7_init_98 (k98 : Int → Int → Mem → Rz) (x0 x1 : Int) (μ : Mem) : Rz := if 5100 ≤ x1 then (RT 0 μ) else (GF 7 1 x0 μ fun t101 => GF 7 2 x0 μ fun t102 => AL 1 t102 x1 μ fun t103 => AS 1 t101 x1 t103 μ fun u104 => k98 x0 (w32 (x1 + 1)) u104)
def LX7_init_98 : Nat → Int → Int → Mem → Rz
  | 0, _, _, _ => none
  | n + 1, x0, x1, μ => BX7_init_98 (fun y0 y1 ν => LX7_init_98 n y0 y1 ν) x0 x1 μ
def BX7_init_0 (x0 : Int) (μ : Mem) : Rz := if 0 < x0 then (NA 1 45900 μ fun t101 u102 => PF 7 1 x0 t101 u102 fun u103 => NA 1 5100 u103 fun t104 u105 => PF 7 2 x0 t104 u105 fun u106 => NA 1 324 u106 fun t107 u108 => PF 7 5 x0 t107 u108 fun u109 => NA 2 602 u109 fun t110 u111 => PF 7 6 x0 t110 u111 fun u112 => NA 1 768 u112 fun t113 u114 => PF 7 7 x0 t113 u114 fun u115 => NA 1 768 u115 fun t116 u117 => PF 7 8 x0 t116 u117 fun u118 => NA 1 192 u118 fun t119 u120 => PF 7 9 x0 t119 u120 fun u121 => NA 1 600 u121 fun t122 u123 => PF 7 11 x0 t122 u123 fun u124 => PF 7 16 x0 (-1) u124 fun u125 => NA 1 12 u125 fun t126 u127 => PF 7 23 x0 t126 u127 fun u128 => KD 7 x0 u128 (CL (FX7_begins x0 8 8 u128) fun _ u130 => LX7_init_98 FU x0 0 u130)) else none
def FX7_init (a0 : Int) (μ : Mem) : Rz := BX7_init_0 a0 μ
def BX7_inks_0 (x0 x1 x2 : Int) (μ : Mem) : Rz := PF 7 0 x0 0 μ fun u101 => KD 7 x0 u101 (CL (FX7_isCell x0 x1 x2 u101) fun t102 u103 => KD 7 x0 u103 (CL (FX7_right x0 t102 1 u103) fun t104 u105 => if ¬ t104 = 0 then (KD 7 x0 u105 (CL (FX7_lays x0 u105) fun _ u107 => GF 7 9 x0 u107 fun t108 => AL 1 t108 (w32 ((w32 (16 * x2)) + x1)) u107 fun t109 => RT t109 u107)) else (RT 0 u105)))
def FX7_inks (a0 a1 a2 : Int) (μ : Mem) : Rz := BX7_inks_0 a0 a1 a2 μ
def BX7_limit_0 (x0 x1 : Int) (μ : Mem) : Rz := PF 7 0 x0 0 μ fun u101 => CL (FX7_isIn x1 1 4 u101) fun t102 u103 => KD 7 x0 u103 (CL (FX7_right x0 t102 1 u103) fun t104 u105 => if ¬ t104 = 0 then (KD 7 x0 u105 (CL (FX7_change x0 u105) fun _ u107 => KD 7 x0 u107 (CL (FX7_get x0 3 u107) fun t108 u109 => KD 7 x0 u109 (CL (FX7_put x0 3 x1 u109) fun _ u111 => RT t108 u111)))) else (RT 0 u105))
def FX7_limit (a0 a1 : Int) (μ : Mem) : Rz := BX7_limit_0 a0 a1 μ
def BX7_fails_0 (x0 x1 x2 : Int) (μ : Mem) : Rz := GF 7 15 x0 μ fun t101 => if t101 = 0 then (PF 7 15 x0 x1 μ fun u102 => PF 7 16 x0 x2 u102 fun u103 => RTZ 0 u103) else (RTZ 0 μ)
def FX7_fails (a0 a1 a2 : Int) (μ : Mem) : Rz := BX7_fails_0 a0 a1 a2 μ
def BX7_here_62 (s0 : Int) (μ : Mem) : Rz := RT s0 μ
def BX7_here_38 (x0 : Int) (μ : Mem) : Rz := GF 7 14 x0 μ fun t101 => GF 7 13 x0 μ fun t102 => if t102 ≤ t101 then (BX7_here_62 (-1) μ) else (GF 7 11 x0 μ fun t103 => GF 7 14 x0 μ fun t104 => AL 1 t103 t104 μ fun t105 => BX7_here_62 t105 μ)
def BX7_here_0 (k0 : Int → Mem → Rz) (x0 : Int) (μ : Mem) : Rz := GF 7 14 x0 μ fun t101 => GF 7 13 x0 μ fun t102 => if t102 ≤ t101 then (BX7_here_38 x0 μ) else (GF 7 11 x0 μ fun t103 => GF 7 14 x0 μ fun t104 => AL 1 t103 t104 μ fun t105 => if ¬ t105 = 32 then (BX7_here_38 x0 μ) else (GF 7 14 x0 μ fun t106 => PF 7 14 x0 (w32 (t106 + 1)) μ fun u107 => k0 x0 u107))
def LX7_here_0 : Nat → Int → Mem → Rz
  | 0, _, _ => none
  | n + 1, x0, μ => BX7_here_0 (fun y0 ν => LX7_here_0 n y0 ν) x0 μ
def FX7_here (a0 : Int) (μ : Mem) : Rz := LX7_here_0 FU a0 μ
def BX7_isDigit_17 (s0 : Int) (μ : Mem) : Rz := RTZ s0 μ
def BX7_isDigit_16 (μ : Mem) : Rz := BX7_isDigit_17 0 μ
def BX7_isDigit_0 (x0 : Int) (μ : Mem) : Rz := if x0 < 48 then (BX7_isDigit_16 μ) else (if 57 < x0 then (BX7_isDigit_16 μ) else (BX7_isDigit_17 1 μ))
def FX7_isDigit (a0 : Int) (μ : Mem) : Rz := BX7_isDigit_0 a0 μ
def BX7_reads_143 (s0 : Int) (μ : Mem) : Rz := RTZ s0 μ
def BX7_reads_138 (μ : Mem) : Rz := BX7_reads_143 1 μ
def BX7_reads_113 (x0 x1 x2 : Int) (μ : Mem) : Rz := GF 7 17 x0 μ fun t101 => CL (FX7_isIn t101 x1 x2 μ) fun t102 u103 => if ¬ t102 = 0 then (BX7_reads_138 u103) else (GF 7 18 x0 u103 fun t104 => KD 7 x0 u103 (CL (FX7_fails x0 (-3) t104 u103) fun t105 u106 => if t105 = 0 then (BX7_reads_143 0 u106) else (BX7_reads_138 u106)))
def BX7_reads_97 (k34 : Int → Int → Int → Mem → Rz) (x0 x1 x2 s0 s1 : Int) (μ : Mem) : Rz := PF 7 17 s1 s0 μ fun u101 => GF 7 14 x0 u101 fun t102 => PF 7 14 x0 (w32 (t102 + 1)) u101 fun u103 => k34 x0 x1 x2 u103
def BX7_reads_34 (k34 : Int → Int → Int → Mem → Rz) (x0 x1 x2 : Int) (μ : Mem) : Rz := GF 7 14 x0 μ fun t101 => GF 7 13 x0 μ fun t102 => if t102 ≤ t101 then (BX7_reads_113 x0 x1 x2 μ) else (GF 7 11 x0 μ fun t103 => GF 7 14 x0 μ fun t104 => AL 1 t103 t104 μ fun t105 => CL (FX7_isDigit t105 μ) fun t106 u107 => if t106 = 0 then (BX7_reads_113 x0 x1 x2 u107) else (GF 7 17 x0 u107 fun t108 => if t108 ≤ 100000 then (GF 7 17 x0 u107 fun t109 => GF 7 11 x0 u107 fun t110 => GF 7 14 x0 u107 fun t111 => AL 1 t110 t111 u107 fun t112 => BX7_reads_97 k34 x0 x1 x2 (w32 ((w32 ((w32 (10 * t109)) + t112)) - 48)) x0 u107) else (GF 7 17 x0 u107 fun t113 => BX7_reads_97 k34 x0 x1 x2 t113 x0 u107)))
def LX7_reads_34 : Nat → Int → Int → Int → Mem → Rz
  | 0, _, _, _, _ => none
  | n + 1, x0, x1, x2, μ => BX7_reads_34 (fun y0 y1 y2 ν => LX7_reads_34 n y0 y1 y2 ν) x0 x1 x2 μ
def BX7_reads_0 (x0 x1 x2 : Int) (μ : Mem) : Rz := KD 7 x0 μ (CL (FX7_here x0 μ) fun t101 u102 => CL (FX7_isDigit t101 u102) fun t103 u104 => if ¬ t103 = 0 then (GF 7 14 x0 u104 fun t105 => PF 7 18 x0 t105 u104 fun u106 => PF 7 17 x0 0 u106 fun u107 => LX7_reads_34 FU x0 x1 x2 u107) else (GF 7 14 x0 u104 fun t108 => KD 7 x0 u104 (CL (FX7_fails x0 (-2) t108 u104) fun t109 u110 => RTZ t109 u110)))
def FX7_reads (a0 a1 a2 : Int) (μ : Mem) : Rz := BX7_reads_0 a0 a1 a2 μ
def BX7_isLetter_17 (s0 : Int) (μ : Mem) : Rz := RTZ s0 μ
def BX7_isLetter_16 (μ : Mem) : Rz := BX7_isLetter_17 0 μ
def BX7_isLetter_0 (x0 : Int) (μ : Mem) : Rz := if x0 < 97 then (BX7_isLetter_16 μ) else (if 122 < x0 then (BX7_isLetter_16 μ) else (BX7_isLetter_17 1 μ))
def FX7_isLetter (a0 : Int) (μ : Mem) : Rz := BX7_isLetter_0 a0 μ
def BX7_letters_43 (x1 : Int) (μ : Mem) : Rz := RT x1 μ
def BX7_letters_7 (k7 : Int → Int → Mem → Rz) (x0 x1 : Int) (μ : Mem) : Rz := GF 7 14 x0 μ fun t101 => GF 7 13 x0 μ fun t102 => if t102 ≤ w32 (t101 + x1) then (BX7_letters_43 x1 μ) else (GF 7 11 x0 μ fun t103 => GF 7 14 x0 μ fun t104 => AL 1 t103 (w32 (t104 + x1)) μ fun t105 => CL (FX7_isLetter t105 μ) fun t106 u107 => if t106 = 0 then (BX7_letters_43 x1 u107) else (k7 x0 (w32 (x1 + 1)) u107))
def LX7_letters_7 : Nat → Int → Int → Mem → Rz
  | 0, _, _, _ => none
  | n + 1, x0, x1, μ => BX7_letters_7 (fun y0 y1 ν => LX7_letters_7 n y0 y1 ν) x0 x1 μ
def BX7_letters_0 (x0 : Int) (μ : Mem) : Rz := KD 7 x0 μ (CL (FX7_here x0 μ) fun t101 u102 => LX7_letters_7 FU x0 0 u102)
def FX7_letters (a0 : Int) (μ : Mem) : Rz := BX7_letters_0 a0 μ
def BX7_named_94 (k2 : Int → Int → Int → Int → Mem → Rz) (x0 x1 x2 x3 x5 : Int) (μ : Mem) : Rz := if x5 = 0 then (k2 x0 x1 x2 (w32 (x3 + 1)) μ) else (RT x3 μ)
def BX7_named_86 (k2 : Int → Int → Int → Int → Mem → Rz) (k46 : Int → Int → Int → Int → Int → Int → Int → Mem → Rz) (x0 x1 x2 x3 x4 x6 s0 : Int) (μ : Mem) : Rz := k46 x0 x1 x2 x3 x4 s0 (w32 (x6 + 1)) μ
def BX7_named_46 (k2 : Int → Int → Int → Int → Mem → Rz) (k46 : Int → Int → Int → Int → Int → Int → Int → Mem → Rz) (x0 x1 x2 x3 x4 x5 x6 : Int) (μ : Mem) : Rz := if x2 ≤ x6 then (BX7_named_94 k2 x0 x1 x2 x3 x5 μ) else (if x5 = 0 then (BX7_named_94 k2 x0 x1 x2 x3 x5 μ) else (GF 7 2 x0 μ fun t101 => AL 1 t101 (w32 ((w32 (x4 + 1)) + x6)) μ fun t102 => GF 7 11 x0 μ fun t103 => AL 1 t103 (w32 (x1 + x6)) μ fun t104 => if ¬ t102 = t104 then (BX7_named_86 k2 k46 x0 x1 x2 x3 x4 x6 0 μ) else (BX7_named_86 k2 k46 x0 x1 x2 x3 x4 x6 1 μ)))
def LX7_named_46 (k2 : Int → Int → Int → Int → Mem → Rz) : Nat → Int → Int → Int → Int → Int → Int → Int → Mem → Rz
  | 0, _, _, _, _, _, _, _, _ => none
  | n + 1, x0, x1, x2, x3, x4, x5, x6, μ => BX7_named_46 k2 (fun y0 y1 y2 y3 y4 y5 y6 ν => LX7_named_46 k2 n y0 y1 y2 y3 y4 y5 y6 ν) x0 x1 x2 x3 x4 x5 x6 μ
def BX7_named_41 (k2 : Int → Int → Int → Int → Mem → Rz) (x0 x1 x2 x3 x4 s0 : Int) (μ : Mem) : Rz := LX7_named_46 k2 FU x0 x1 x2 x3 x4 s0 0 μ
def BX7_named_2 (k2 : Int → Int → Int → Int → Mem → Rz) (x0 x1 x2 x3 : Int) (μ : Mem) : Rz := GF 7 2 x0 μ fun t101 => AL 1 t101 2 μ fun t102 => if t102 ≤ x3 then (RT (-1) μ) else (LT (w32 (196 + (w32 (1226 * x3)))) fun x103 => GF 7 2 x0 μ fun t104 => AL 1 t104 (w32 (x103 + 0)) μ fun t105 => if ¬ t105 = x2 then (BX7_named_41 k2 x0 x1 x2 x3 x103 0 μ) else (BX7_named_41 k2 x0 x1 x2 x3 x103 1 μ))
def LX7_named_2 : Nat → Int → Int → Int → Int → Mem → Rz
  | 0, _, _, _, _, _ => none
  | n + 1, x0, x1, x2, x3, μ => BX7_named_2 (fun y0 y1 y2 y3 ν => LX7_named_2 n y0 y1 y2 y3 ν) x0 x1 x2 x3 μ
def BX7_named_0 (x0 x1 x2 : Int) (μ : Mem) : Rz := LX7_named_2 FU x0 x1 x2 0 μ
def FX7_named (a0 a1 a2 : Int) (μ : Mem) : Rz := BX7_named_0 a0 a1 a2 μ
def BX7_readsInk_0 (x0 : Int) (μ : Mem) : Rz := KD 7 x0 μ (CL (FX7_letters x0 μ) fun t101 u102 => if ¬ t101 = 0 then (if t101 ≤ 6 then (GF 7 14 x0 u102 fun t103 => KD 7 x0 u102 (CL (FX7_named x0 t103 t101 u102) fun t104 u105 => if ¬ t104 = (-1) then (GF 7 14 x0 u105 fun t106 => PF 7 14 x0 (w32 (t106 + t101)) u105 fun u107 => KD 7 x0 u107 (CL (FX7_reads x0 0 99999 u107) fun t108 u109 => if ¬ t108 = 0 then (GF 7 2 x0 u109 fun t110 => GF 7 17 x0 u109 fun t111 => AS 1 t110 (w32 ((w32 (196 + (w32 (1226 * t104)))) + 12)) t111 u109 fun u112 => RTZ 1 u112) else (RTZ 0 u109))) else (GF 7 14 x0 u105 fun t113 => KD 7 x0 u105 (CL (FX7_fails x0 (-4) t113 u105) fun t114 u115 => RTZ t114 u115)))) else (GF 7 14 x0 u102 fun t116 => KD 7 x0 u102 (CL (FX7_fails x0 (-3) t116 u102) fun t117 u118 => RTZ t117 u118))) else (GF 7 14 x0 u102 fun t119 => KD 7 x0 u102 (CL (FX7_fails x0 (-2) t119 u102) fun t120 u121 => RTZ t120 u121)))
def FX7_readsInk (a0 : Int) (μ : Mem) : Rz := BX7_readsInk_0 a0 μ
def BX7_emits_0 (x0 x1 x2 : Int) (μ : Mem) : Rz := GF 7 19 x0 μ fun t101 => LT (w32 (196 + (w32 (1226 * t101)))) fun x102 => GF 7 2 x0 μ fun t103 => AL 1 t103 (w32 (x102 + 13)) μ fun t104 => LT (w32 ((w32 (x102 + 26)) + (w32 (2 * t104)))) fun x105 => GF 7 2 x0 μ fun t106 => AS 1 t106 x105 x1 μ fun u107 => GF 7 2 x0 u107 fun t108 => AS 1 t108 (w32 (x105 + 1)) x2 u107 fun u109 => GF 7 2 x0 u109 fun t110 => AL 1 t110 (w32 (x102 + 13)) u109 fun t111 => AS 1 t110 (w32 (x102 + 13)) (w32 (t111 + 1)) u109 fun u112 => RT 0 u112
def FX7_emits (a0 a1 a2 : Int) (μ : Mem) : Rz := BX7_emits_0 a0 a1 a2 μ
def BX7_sign_0 (x0 x1 : Int) (μ : Mem) : Rz := KD 7 x0 μ (CL (FX7_here x0 μ) fun t101 u102 => if t101 = x1 then (GF 7 14 x0 u102 fun t103 => PF 7 14 x0 (w32 (t103 + 1)) u102 fun u104 => RTZ 1 u104) else (GF 7 14 x0 u102 fun t105 => KD 7 x0 u102 (CL (FX7_fails x0 (-2) t105 u102) fun t106 u107 => RTZ t106 u107)))
def FX7_sign (a0 a1 : Int) (μ : Mem) : Rz := BX7_sign_0 a0 a1 μ
def BX7_takes_17 (k17 : Int → Int → Int → Int → Mem → Rz) (x0 x1 x2 x3 : Int) (μ : Mem) : Rz := if x2 ≤ x3 then (GF 7 14 x0 μ fun t101 => PF 7 14 x0 (w32 (t101 + x2)) μ fun u102 => RTZ 1 u102) else (GF 7 11 x0 μ fun t103 => GF 7 14 x0 μ fun t104 => AL 1 t103 (w32 (t104 + x3)) μ fun t105 => STC x1 x3 fun t106 => if t105 = t106 then (k17 x0 x1 x2 (w32 (x3 + 1)) μ) else (RTZ 0 μ))
def LX7_takes_17 : Nat → Int → Int → Int → Int → Mem → Rz
  | 0, _, _, _, _, _ => none
  | n + 1, x0, x1, x2, x3, μ => BX7_takes_17 (fun y0 y1 y2 y3 ν => LX7_takes_17 n y0 y1 y2 y3 ν) x0 x1 x2 x3 μ
def BX7_takes_0 (x0 x1 : Int) (μ : Mem) : Rz := KD 7 x0 μ (CL (FX7_letters x0 μ) fun t101 u102 => STL x1 fun t103 => if t101 = t103 then (LX7_takes_17 FU x0 x1 t101 0 u102) else (RTZ 0 u102))
def FX7_takes (a0 a1 : Int) (μ : Mem) : Rz := BX7_takes_0 a0 a1 μ
def BX7_readsFactor_165 (rc : Int → Mem → Rz) (x0 s0 : Int) (μ : Mem) : Rz := if ¬ s0 = (-1) then (KD 7 x0 μ (CL (FX7_emits x0 1 s0 μ) fun _ u102 => RTZ 1 u102)) else (GF 7 14 x0 μ fun t103 => KD 7 x0 μ (CL (FX7_fails x0 (-2) t103 μ) fun t104 u105 => RTZ t104 u105))
def BX7_readsFactor_64 (rc : Int → Mem → Rz) (μ : Mem) : Rz := RTZ 0 μ
def BX7_readsFactor_0 (rc : Int → Mem → Rz) (x0 : Int) (μ : Mem) : Rz := KD 7 x0 μ (CL (FX7_here x0 μ) fun t101 u102 => if ¬ t101 = 40 then (KD 7 x0 u102 (CL (FX7_here x0 u102) fun t103 u104 => CL (FX7_isDigit t103 u104) fun t105 u106 => if t105 = 0 then (KD 7 x0 u106 (CL (FX7_takes x0 6 u106) fun t107 u108 => if t107 = 0 then (KD 7 x0 u108 (CL (FX7_takes x0 7 u108) fun t109 u110 => if t109 = 0 then (KD 7 x0 u110 (CL (FX7_takes x0 8 u110) fun t111 u112 => if t111 = 0 then (KD 7 x0 u112 (CL (FX7_takes x0 2 u112) fun t113 u114 => if t113 = 0 then (BX7_readsFactor_165 rc x0 (-1) u114) else (BX7_readsFactor_165 rc x0 3 u114))) else (BX7_readsFactor_165 rc x0 2 u112))) else (BX7_readsFactor_165 rc x0 1 u110))) else (BX7_readsFactor_165 rc x0 0 u108))) else (KD 7 x0 u106 (CL (FX7_reads x0 0 9999 u106) fun t115 u116 => if ¬ t115 = 0 then (GF 7 17 x0 u116 fun t117 => KD 7 x0 u116 (CL (FX7_emits x0 0 t117 u116) fun _ u119 => RTZ 1 u119)) else (RTZ 0 u116))))) else (GF 7 20 x0 u102 fun t120 => if ¬ t120 = 4 then (GF 7 20 x0 u102 fun t121 => PF 7 20 x0 (w32 (t121 + 1)) u102 fun u122 => GF 7 14 x0 u122 fun t123 => PF 7 14 x0 (w32 (t123 + 1)) u122 fun u124 => KD 7 x0 u124 (CL (rc x0 u124) fun t125 u126 => if t125 = 0 then (BX7_readsFactor_64 rc u126) else (KD 7 x0 u126 (CL (FX7_sign x0 41 u126) fun t127 u128 => if ¬ t127 = 0 then (GF 7 20 x0 u128 fun t129 => PF 7 20 x0 (w32 (t129 - 1)) u128 fun u130 => RTZ 1 u130) else (BX7_readsFactor_64 rc u128))))) else (GF 7 14 x0 u102 fun t131 => KD 7 x0 u102 (CL (FX7_fails x0 (-6) t131 u102) fun t132 u133 => RTZ t132 u133))))
def FX7_readsFactor (rc : Int → Mem → Rz) (a0 : Int) (μ : Mem) : Rz := BX7_readsFactor_0 rc a0 μ
def BX7_readsTerm_41 (rc : Int → Mem → Rz) (k9 : Int → Mem → Rz) (x0 s0 : Int) (μ : Mem) : Rz := GF 7 14 x0 μ fun t101 => PF 7 14 x0 (w32 (t101 + 1)) μ fun u102 => KD 7 x0 u102 (CL (FX7_readsFactor rc x0 u102) fun t103 u104 => if ¬ t103 = 0 then (KD 7 x0 u104 (CL (FX7_emits x0 s0 0 u104) fun _ u106 => k9 x0 u106)) else (RTZ 0 u104))
def BX7_readsTerm_27 (rc : Int → Mem → Rz) (k9 : Int → Mem → Rz) (x0 : Int) (μ : Mem) : Rz := KD 7 x0 μ (CL (FX7_here x0 μ) fun t101 u102 => if ¬ t101 = 42 then (BX7_readsTerm_41 rc k9 x0 5 u102) else (BX7_readsTerm_41 rc k9 x0 4 u102))
def BX7_readsTerm_9 (rc : Int → Mem → Rz) (k9 : Int → Mem → Rz) (x0 : Int) (μ : Mem) : Rz := KD 7 x0 μ (CL (FX7_here x0 μ) fun t101 u102 => if t101 = 42 then (BX7_readsTerm_27 rc k9 x0 u102) else (KD 7 x0 u102 (CL (FX7_here x0 u102) fun t103 u104 => if ¬ t103 = 47 then (RTZ 1 u104) else (BX7_readsTerm_27 rc k9 x0 u104))))
def LX7_readsTerm_9 (rc : Int → Mem → Rz) : Nat → Int → Mem → Rz
  | 0, _, _ => none
  | n + 1, x0, μ => BX7_readsTerm_9 rc (fun y0 ν => LX7_readsTerm_9 rc n y0 ν) x0 μ
def BX7_readsTerm_0 (rc : Int → Mem → Rz) (x0 : Int) (μ : Mem) : Rz := KD 7 x0 μ (CL (FX7_readsFactor rc x0 μ) fun t101 u102 => if ¬ t101 = 0 then (LX7_readsTerm_9 rc FU x0 u102) else (RTZ 0 u102))
def FX7_readsTerm (rc : Int → Mem → Rz) (a0 : Int) (μ : Mem) : Rz := BX7_readsTerm_0 rc a0 μ
def BX7_readsSum_41 (rc : Int → Mem → Rz) (k9 : Int → Mem → Rz) (x0 s0 : Int) (μ : Mem) : Rz := GF 7 14 x0 μ fun t101 => PF 7 14 x0 (w32 (t101 + 1)) μ fun u102 => KD 7 x0 u102 (CL (FX7_readsTerm rc x0 u102) fun t103 u104 => if ¬ t103 = 0 then (KD 7 x0 u104 (CL (FX7_emits x0 s0 0 u104) fun _ u106 => k9 x0 u106)) else (RTZ 0 u104))
def BX7_readsSum_27 (rc : Int → Mem → Rz) (k9 : Int → Mem → Rz) (x0 : Int) (μ : Mem) : Rz := KD 7 x0 μ (CL (FX7_here x0 μ) fun t101 u102 => if ¬ t101 = 43 then (BX7_readsSum_41 rc k9 x0 3 u102) else (BX7_readsSum_41 rc k9 x0 2 u102))
def BX7_readsSum_9 (rc : Int → Mem → Rz) (k9 : Int → Mem → Rz) (x0 : Int) (μ : Mem) : Rz := KD 7 x0 μ (CL (FX7_here x0 μ) fun t101 u102 => if t101 = 43 then (BX7_readsSum_27 rc k9 x0 u102) else (KD 7 x0 u102 (CL (FX7_here x0 u102) fun t103 u104 => if ¬ t103 = 45 then (RTZ 1 u104) else (BX7_readsSum_27 rc k9 x0 u104))))
def LX7_readsSum_9 (rc : Int → Mem → Rz) : Nat → Int → Mem → Rz
  | 0, _, _ => none
  | n + 1, x0, μ => BX7_readsSum_9 rc (fun y0 ν => LX7_readsSum_9 rc n y0 ν) x0 μ
def BX7_readsSum_0 (rc : Int → Mem → Rz) (x0 : Int) (μ : Mem) : Rz := KD 7 x0 μ (CL (FX7_readsTerm rc x0 μ) fun t101 u102 => if ¬ t101 = 0 then (LX7_readsSum_9 rc FU x0 u102) else (RTZ 0 u102))
def FX7_readsSum (rc : Int → Mem → Rz) (a0 : Int) (μ : Mem) : Rz := BX7_readsSum_0 rc a0 μ
def RX7_readsSum : Nat → Int → Mem → Rz
  | 0, _, _ => none
  | n + 1, a0, μ => FX7_readsSum (fun b0 ν => RX7_readsSum n b0 ν) a0 μ
def TX7_readsSum (a0 : Int) (μ : Mem) : Rz := RX7_readsSum 7 a0 μ
def BX7_readsPlate_355 (x0 : Int) (μ : Mem) : Rz := GF 7 2 x0 μ fun t101 => AL 1 t101 2 μ fun t102 => AS 1 t101 2 (w32 (t102 + 1)) μ fun u103 => RTZ 1 u103
def BX7_readsPlate_290 (x0 x3 s0 : Int) (μ : Mem) : Rz := if ¬ s0 = (-1) then (GF 7 2 x0 μ fun t101 => AS 1 t101 (w32 (x3 + 9)) s0 μ fun u102 => GF 7 2 x0 u102 fun t103 => AS 1 t103 (w32 (x3 + 12)) 1000 u102 fun u104 => PF 7 20 x0 0 u104 fun u105 => KD 7 x0 u105 (CL (FX7_takes x0 5 u105) fun t106 u107 => if t106 = 0 then (BX7_readsPlate_355 x0 u107) else (KD 7 x0 u107 (CL (TX7_readsSum x0 u107) fun t108 u109 => if ¬ t108 = 0 then (BX7_readsPlate_355 x0 u109) else (RTZ 0 u109))))) else (GF 7 14 x0 μ fun t110 => KD 7 x0 μ (CL (FX7_fails x0 (-2) t110 μ) fun t111 u112 => RTZ t111 u112))
def BX7_readsPlate_224 (x0 x3 : Int) (μ : Mem) : Rz := GF 7 2 x0 μ fun t101 => GF 7 17 x0 μ fun t102 => AS 1 t101 (w32 (x3 + 8)) t102 μ fun u103 => KD 7 x0 u103 (CL (FX7_takes x0 9 u103) fun t104 u105 => if t104 = 0 then (KD 7 x0 u105 (CL (FX7_takes x0 10 u105) fun t106 u107 => if t106 = 0 then (KD 7 x0 u107 (CL (FX7_takes x0 11 u107) fun t108 u109 => if t108 = 0 then (KD 7 x0 u109 (CL (FX7_takes x0 12 u109) fun t110 u111 => if t110 = 0 then (BX7_readsPlate_290 x0 x3 (-1) u111) else (BX7_readsPlate_290 x0 x3 3 u111))) else (BX7_readsPlate_290 x0 x3 2 u109))) else (BX7_readsPlate_290 x0 x3 1 u107))) else (BX7_readsPlate_290 x0 x3 0 u105))
def BX7_readsPlate_114 (k114 : Int → Int → Int → Int → Mem → Rz) (x0 x2 x3 x4 : Int) (μ : Mem) : Rz := if x2 ≤ x4 then (GF 7 14 x0 μ fun t101 => PF 7 14 x0 (w32 (t101 + x2)) μ fun u102 => KD 7 x0 u102 (CL (FX7_reads x0 0 3 u102) fun t103 u104 => if ¬ t103 = 0 then (GF 7 2 x0 u104 fun t105 => GF 7 17 x0 u104 fun t106 => AS 1 t105 (w32 (x3 + 7)) t106 u104 fun u107 => KD 7 x0 u107 (CL (FX7_reads x0 0 3 u107) fun t108 u109 => if ¬ t108 = 0 then (GF 7 17 x0 u109 fun t110 => if ¬ t110 = 0 then (BX7_readsPlate_224 x0 x3 u109) else (GF 7 2 x0 u109 fun t111 => AL 1 t111 (w32 (x3 + 7)) u109 fun t112 => if ¬ t112 = 0 then (BX7_readsPlate_224 x0 x3 u109) else (GF 7 18 x0 u109 fun t113 => KD 7 x0 u109 (CL (FX7_fails x0 (-3) t113 u109) fun t114 u115 => RTZ t114 u115)))) else (RTZ 0 u109))) else (RTZ 0 u104))) else (GF 7 2 x0 μ fun t116 => GF 7 11 x0 μ fun t117 => GF 7 14 x0 μ fun t118 => AL 1 t117 (w32 (t118 + x4)) μ fun t119 => AS 1 t116 (w32 ((w32 (x3 + 1)) + x4)) t119 μ fun u120 => k114 x0 x2 x3 (w32 (x4 + 1)) u120)
def LX7_readsPlate_114 : Nat → Int → Int → Int → Int → Mem → Rz
  | 0, _, _, _, _, _ => none
  | n + 1, x0, x2, x3, x4, μ => BX7_readsPlate_114 (fun y0 y2 y3 y4 ν => LX7_readsPlate_114 n y0 y2 y3 y4 ν) x0 x2 x3 x4 μ
def BX7_readsPlate_0 (x0 x1 : Int) (μ : Mem) : Rz := GF 7 2 x0 μ fun t101 => AL 1 t101 2 μ fun t102 => if ¬ t102 = 4 then (KD 7 x0 μ (CL (FX7_letters x0 μ) fun t103 u104 => if ¬ t103 = 0 then (if t103 ≤ 6 then (GF 7 14 x0 u104 fun t105 => KD 7 x0 u104 (CL (FX7_named x0 t105 t103 u104) fun t106 u107 => if t106 = (-1) then (GF 7 2 x0 u107 fun t108 => AL 1 t108 2 u107 fun t109 => PF 7 19 x0 t109 u107 fun u110 => GF 7 19 x0 u110 fun t111 => LT (w32 (196 + (w32 (1226 * t111)))) fun x112 => GF 7 2 x0 u110 fun t113 => AS 1 t113 (w32 (x112 + 0)) t103 u110 fun u114 => LX7_readsPlate_114 FU x0 t103 x112 0 u114) else (GF 7 14 x0 u107 fun t115 => KD 7 x0 u107 (CL (FX7_fails x0 (-4) t115 u107) fun t116 u117 => RTZ t116 u117)))) else (GF 7 14 x0 u104 fun t118 => KD 7 x0 u104 (CL (FX7_fails x0 (-3) t118 u104) fun t119 u120 => RTZ t119 u120))) else (GF 7 14 x0 u104 fun t121 => KD 7 x0 u104 (CL (FX7_fails x0 (-2) t121 u104) fun t122 u123 => RTZ t122 u123)))) else (KD 7 x0 μ (CL (FX7_fails x0 (-5) x1 μ) fun t124 u125 => RTZ t124 u125))
def FX7_readsPlate (a0 a1 : Int) (μ : Mem) : Rz := BX7_readsPlate_0 a0 a1 μ
def BX7_readsTones_94 (k2 : Int → Int → Mem → Rz) (k94 : Int → Int → Int → Int → Mem → Rz) (x0 x1 x2 x3 : Int) (μ : Mem) : Rz := if x2 ≤ x3 then (GF 7 14 x0 μ fun t101 => PF 7 14 x0 (w32 (t101 + x2)) μ fun u102 => k2 x0 (w32 (x1 + 1)) u102) else (GF 7 2 x0 μ fun t103 => GF 7 11 x0 μ fun t104 => GF 7 14 x0 μ fun t105 => AL 1 t104 (w32 (t105 + x3)) μ fun t106 => AS 1 t103 (w32 ((w32 (4 + (w32 (16 * x1)))) + x3)) (w32 (11 * (w32 (t106 - 48)))) μ fun u107 => k94 x0 x1 x2 (w32 (x3 + 1)) u107)
def LX7_readsTones_94 (k2 : Int → Int → Mem → Rz) : Nat → Int → Int → Int → Int → Mem → Rz
  | 0, _, _, _, _, _ => none
  | n + 1, x0, x1, x2, x3, μ => BX7_readsTones_94 k2 (fun y0 y1 y2 y3 ν => LX7_readsTones_94 k2 n y0 y1 y2 y3 ν) x0 x1 x2 x3 μ
def BX7_readsTones_71 (k2 : Int → Int → Mem → Rz) (x0 x1 x2 : Int) (μ : Mem) : Rz := GF 7 2 x0 μ fun t101 => AL 1 t101 0 μ fun t102 => if x2 = t102 then (LX7_readsTones_94 k2 FU x0 x1 x2 0 μ) else (GF 7 14 x0 μ fun t103 => KD 7 x0 μ (CL (FX7_fails x0 (-3) t103 μ) fun t104 u105 => RTZ t104 u105))
def BX7_readsTones_35 (k2 : Int → Int → Mem → Rz) (k35 : Int → Int → Int → Mem → Rz) (x0 x1 x2 : Int) (μ : Mem) : Rz := GF 7 14 x0 μ fun t101 => GF 7 13 x0 μ fun t102 => if t102 ≤ w32 (t101 + x2) then (BX7_readsTones_71 k2 x0 x1 x2 μ) else (GF 7 11 x0 μ fun t103 => GF 7 14 x0 μ fun t104 => AL 1 t103 (w32 (t104 + x2)) μ fun t105 => CL (FX7_isDigit t105 μ) fun t106 u107 => if t106 = 0 then (BX7_readsTones_71 k2 x0 x1 x2 u107) else (k35 x0 x1 (w32 (x2 + 1)) u107))
def LX7_readsTones_35 (k2 : Int → Int → Mem → Rz) : Nat → Int → Int → Int → Mem → Rz
  | 0, _, _, _, _ => none
  | n + 1, x0, x1, x2, μ => BX7_readsTones_35 k2 (fun y0 y1 y2 ν => LX7_readsTones_35 k2 n y0 y1 y2 ν) x0 x1 x2 μ
def BX7_readsTones_2 (k2 : Int → Int → Mem → Rz) (x0 x1 : Int) (μ : Mem) : Rz := GF 7 2 x0 μ fun t101 => AL 1 t101 1 μ fun t102 => if t102 ≤ x1 then (RTZ 1 μ) else (KD 7 x0 μ (CL (FX7_here x0 μ) fun t103 u104 => CL (FX7_isDigit t103 u104) fun t105 u106 => if ¬ t105 = 0 then (LX7_readsTones_35 k2 FU x0 x1 0 u106) else (GF 7 14 x0 u106 fun t107 => KD 7 x0 u106 (CL (FX7_fails x0 (-2) t107 u106) fun t108 u109 => RTZ t108 u109))))
def LX7_readsTones_2 : Nat → Int → Int → Mem → Rz
  | 0, _, _, _ => none
  | n + 1, x0, x1, μ => BX7_readsTones_2 (fun y0 y1 ν => LX7_readsTones_2 n y0 y1 ν) x0 x1 μ
def BX7_readsTones_0 (x0 : Int) (μ : Mem) : Rz := LX7_readsTones_2 FU x0 0 μ
def FX7_readsTones (a0 : Int) (μ : Mem) : Rz := BX7_readsTones_0 a0 μ
def BX7_readsStatement_90 (x0 x1 : Int) (μ : Mem) : Rz := KD 7 x0 μ (CL (FX7_fails x0 (-2) x1 μ) fun t101 u102 => RTZ t101 u102)
def BX7_readsStatement_0 (x0 : Int) (μ : Mem) : Rz := KD 7 x0 μ (CL (FX7_here x0 μ) fun t101 u102 => GF 7 14 x0 u102 fun t103 => KD 7 x0 u102 (CL (FX7_takes x0 2 u102) fun t104 u105 => if t104 = 0 then (KD 7 x0 u105 (CL (FX7_takes x0 3 u105) fun t106 u107 => if t106 = 0 then (KD 7 x0 u107 (CL (FX7_takes x0 1 u107) fun t108 u109 => if t108 = 0 then (KD 7 x0 u109 (CL (FX7_takes x0 4 u109) fun t110 u111 => if t110 = 0 then (BX7_readsStatement_90 x0 t103 u111) else (GF 7 22 x0 u111 fun t112 => if t112 = 0 then (PZ 7 22 x0 1 u111 fun u113 => KD 7 x0 u113 (CL (FX7_reads x0 1 4 u113) fun t114 u115 => if ¬ t114 = 0 then (GF 7 2 x0 u115 fun t116 => GF 7 17 x0 u115 fun t117 => AS 1 t116 3 t117 u115 fun u118 => RTZ 1 u118) else (RTZ 0 u115))) else (BX7_readsStatement_90 x0 t103 u111)))) else (GF 7 21 x0 u109 fun t119 => if t119 = 0 then (PZ 7 21 x0 1 u109 fun u120 => KD 7 x0 u120 (CL (FX7_readsTones x0 u120) fun t121 u122 => RTZ t121 u122)) else (KD 7 x0 u109 (CL (FX7_fails x0 (-2) t103 u109) fun t123 u124 => RTZ t123 u124))))) else (KD 7 x0 u107 (CL (FX7_readsInk x0 u107) fun t125 u126 => RTZ t125 u126)))) else (KD 7 x0 u105 (CL (FX7_readsPlate x0 t103 u105) fun t127 u128 => RTZ t127 u128))))
def FX7_readsStatement (a0 : Int) (μ : Mem) : Rz := BX7_readsStatement_0 a0 μ
def BX7_readsText_104 (μ : Mem) : Rz := RTZ 0 μ
def BX7_readsText_80 (k80 : Int → Mem → Rz) (x0 : Int) (μ : Mem) : Rz := KD 7 x0 μ (CL (FX7_here x0 μ) fun t101 u102 => if t101 = (-1) then (RTZ 1 u102) else (KD 7 x0 u102 (CL (FX7_readsStatement x0 u102) fun t103 u104 => if t103 = 0 then (BX7_readsText_104 u104) else (KD 7 x0 u104 (CL (FX7_sign x0 59 u104) fun t105 u106 => if ¬ t105 = 0 then (k80 x0 u106) else (BX7_readsText_104 u106))))))
def LX7_readsText_80 : Nat → Int → Mem → Rz
  | 0, _, _ => none
  | n + 1, x0, μ => BX7_readsText_80 (fun y0 ν => LX7_readsText_80 n y0 ν) x0 μ
def BX7_readsText_0 (x0 : Int) (μ : Mem) : Rz := KD 7 x0 μ (CL (FX7_takes x0 0 μ) fun t101 u102 => if ¬ t101 = 0 then (KD 7 x0 u102 (CL (FX7_reads x0 1 16 u102) fun t103 u104 => if ¬ t103 = 0 then (GF 7 17 x0 u104 fun t105 => KD 7 x0 u104 (CL (FX7_reads x0 1 12 u104) fun t106 u107 => if ¬ t106 = 0 then (GF 7 17 x0 u107 fun t108 => KD 7 x0 u107 (CL (FX7_begins x0 t105 t108 u107) fun _ u110 => PZ 7 21 x0 0 u110 fun u111 => PZ 7 22 x0 0 u111 fun u112 => KD 7 x0 u112 (CL (FX7_sign x0 59 u112) fun t113 u114 => if ¬ t113 = 0 then (LX7_readsText_80 FU x0 u114) else (RTZ 0 u114)))) else (RTZ 0 u107))) else (RTZ 0 u104))) else (GF 7 14 x0 u102 fun t115 => KD 7 x0 u102 (CL (FX7_fails x0 (-2) t115 u102) fun t116 u117 => RTZ t116 u117)))
def FX7_readsText (a0 : Int) (μ : Mem) : Rz := BX7_readsText_0 a0 μ
def BX7_load_67 (k67 : Int → Int → Mem → Rz) (x0 x2 : Int) (μ : Mem) : Rz := if 5100 ≤ x2 then (KD 7 x0 μ (CL (FX7_plates x0 μ) fun t101 u102 => RT t101 u102)) else (GF 7 2 x0 μ fun t103 => AL 1 t103 x2 μ fun t104 => KD 7 x0 μ (CL (FX7_put x0 x2 t104 μ) fun _ u106 => k67 x0 (w32 (x2 + 1)) u106))
def LX7_load_67 : Nat → Int → Int → Mem → Rz
  | 0, _, _, _ => none
  | n + 1, x0, x2, μ => BX7_load_67 (fun y0 y2 ν => LX7_load_67 n y0 y2 ν) x0 x2 μ
def BX7_load_0 (x0 x1 : Int) (μ : Mem) : Rz := PF 7 0 x0 0 μ fun u101 => GF 7 12 x0 u101 fun t102 => CL (FX7_isIn x1 0 t102 u101) fun t103 u104 => KD 7 x0 u104 (CL (FX7_right x0 t103 1 u104) fun t105 u106 => if ¬ t105 = 0 then (PF 7 13 x0 x1 u106 fun u107 => PF 7 14 x0 0 u107 fun u108 => PF 7 12 x0 0 u108 fun u109 => PF 7 15 x0 0 u109 fun u110 => PF 7 16 x0 (-1) u110 fun u111 => KD 7 x0 u111 (CL (FX7_readsText x0 u111) fun t112 u113 => if ¬ t112 = 0 then (KD 7 x0 u113 (CL (FX7_change x0 u113) fun _ u115 => LX7_load_67 FU x0 0 u115)) else (GF 7 15 x0 u113 fun t116 => RT t116 u113))) else (RT 0 u106))
def FX7_load (a0 a1 : Int) (μ : Mem) : Rz := BX7_load_0 a0 a1 μ
def BX7_moireAt_0 (x0 x1 x2 : Int) (μ : Mem) : Rz := KD 7 x0 μ (CL (FX7_of x0 x1 7 μ) fun t101 u102 => KD 7 x0 u102 (CL (FX7_of x0 x1 8 u102) fun t103 u104 => KD 7 x0 u104 (CL (FX7_of x0 x2 7 u104) fun t105 u106 => KD 7 x0 u106 (CL (FX7_of x0 x2 8 u106) fun t107 u108 => CL (FX7_moireOf t101 t103 t105 t107 u108) fun t109 u110 => RT t109 u110))))
def FX7_moireAt (a0 a1 a2 : Int) (μ : Mem) : Rz := BX7_moireAt_0 a0 a1 a2 μ
def BX7_moire_44 (s0 : Int) (μ : Mem) : Rz := RT s0 μ
def BX7_moire_27 (x0 x1 x2 s0 s1 : Int) (μ : Mem) : Rz := KD 7 s1 μ (CL (FX7_right s1 s0 1 μ) fun t101 u102 => if t101 = 0 then (BX7_moire_44 0 u102) else (KD 7 x0 u102 (CL (FX7_moireAt x0 x1 x2 u102) fun t103 u104 => BX7_moire_44 t103 u104)))
def BX7_moire_26 (x0 x1 x2 s0 : Int) (μ : Mem) : Rz := BX7_moire_27 x0 x1 x2 0 s0 μ
def BX7_moire_0 (x0 x1 x2 : Int) (μ : Mem) : Rz := PF 7 0 x0 0 μ fun u101 => KD 7 x0 u101 (CL (FX7_isPlate x0 x1 u101) fun t102 u103 => if t102 = 0 then (BX7_moire_26 x0 x1 x2 x0 u103) else (KD 7 x0 u103 (CL (FX7_isPlate x0 x2 u103) fun t104 u105 => if t104 = 0 then (BX7_moire_26 x0 x1 x2 x0 u105) else (BX7_moire_27 x0 x1 x2 1 x0 u105))))
def FX7_moire (a0 a1 a2 : Int) (μ : Mem) : Rz := BX7_moire_0 a0 a1 a2 μ
def BX7_off_38 (μ : Mem) : Rz := RT 0 μ
def BX7_off_123 (k81 : Int → Int → Int → Int → Int → Int → Int → Mem → Rz) (k94 : Int → Int → Int → Int → Int → Int → Int → Int → Mem → Rz) (x0 x1 x3 x4 x5 x7 x8 s0 s1 : Int) (μ : Mem) : Rz := GF 7 8 x0 μ fun t101 => AL 1 t101 (w32 ((w32 ((w32 (192 * x1)) + (w32 (16 * x7)))) + x8)) μ fun t102 => LT (w32 (s1 + (w32 (s0 - t102)))) fun x103 => k94 x0 x1 x3 x4 x5 x103 x7 (w32 (x8 + 1)) μ
def BX7_off_94 (k81 : Int → Int → Int → Int → Int → Int → Int → Mem → Rz) (k94 : Int → Int → Int → Int → Int → Int → Int → Int → Mem → Rz) (x0 x1 x3 x4 x5 x6 x7 x8 : Int) (μ : Mem) : Rz := if w32 (x4 + x3) ≤ x8 then (k81 x0 x1 x3 x4 x5 x6 (w32 (x7 + 1)) μ) else (KD 7 x0 μ (CL (FX7_hasDot x0 x1 x8 x7 μ) fun t101 u102 => if t101 = 0 then (BX7_off_123 k81 k94 x0 x1 x3 x4 x5 x7 x8 0 x6 u102) else (BX7_off_123 k81 k94 x0 x1 x3 x4 x5 x7 x8 100 x6 u102)))
def LX7_off_94 (k81 : Int → Int → Int → Int → Int → Int → Int → Mem → Rz) : Nat → Int → Int → Int → Int → Int → Int → Int → Int → Mem → Rz
  | 0, _, _, _, _, _, _, _, _, _ => none
  | n + 1, x0, x1, x3, x4, x5, x6, x7, x8, μ => BX7_off_94 k81 (fun y0 y1 y3 y4 y5 y6 y7 y8 ν => LX7_off_94 k81 n y0 y1 y3 y4 y5 y6 y7 y8 ν) x0 x1 x3 x4 x5 x6 x7 x8 μ
def BX7_off_81 (k81 : Int → Int → Int → Int → Int → Int → Int → Mem → Rz) (x0 x1 x3 x4 x5 x6 x7 : Int) (μ : Mem) : Rz := if w32 (x5 + x3) ≤ x7 then (RT x6 μ) else (LX7_off_94 k81 FU x0 x1 x3 x4 x5 x6 x7 x4 μ)
def LX7_off_81 : Nat → Int → Int → Int → Int → Int → Int → Int → Mem → Rz
  | 0, _, _, _, _, _, _, _, _ => none
  | n + 1, x0, x1, x3, x4, x5, x6, x7, μ => BX7_off_81 (fun y0 y1 y3 y4 y5 y6 y7 ν => LX7_off_81 n y0 y1 y3 y4 y5 y6 y7 ν) x0 x1 x3 x4 x5 x6 x7 μ
def BX7_off_0 (x0 x1 x2 : Int) (μ : Mem) : Rz := PF 7 0 x0 0 μ fun u101 => KD 7 x0 u101 (CL (FX7_isPlate x0 x1 u101) fun t102 u103 => KD 7 x0 u103 (CL (FX7_right x0 t102 1 u103) fun t104 u105 => if t104 = 0 then (BX7_off_38 u105) else (KD 7 x0 u105 (CL (FX7_blocks x0 x1 u105) fun t106 u107 => CL (FX7_isIn x2 0 (w32 (t106 - 1)) u107) fun t108 u109 => KD 7 x0 u109 (CL (FX7_right x0 t108 2 u109) fun t110 u111 => if ¬ t110 = 0 then (KD 7 x0 u111 (CL (FX7_lays x0 u111) fun _ u113 => KD 7 x0 u113 (CL (FX7_squareOf x0 x1 u113) fun t114 u115 => KD 7 x0 u115 (CL (FX7_wide x0 u115) fun t116 u117 => DV t116 t114 fun t118 => RM x2 t118 fun t119 => LT (w32 (t114 * t119)) fun x120 => KD 7 x0 u117 (CL (FX7_wide x0 u117) fun t121 u122 => DV t121 t114 fun t123 => DV x2 t123 fun t124 => LT (w32 (t114 * t124)) fun x125 => LX7_off_81 FU x0 x1 t114 x120 x125 0 x125 u122))))) else (BX7_off_38 u111))))))
def FX7_off (a0 a1 a2 : Int) (μ : Mem) : Rz := BX7_off_0 a0 a1 a2 μ
def BX7_paint_72 (μ : Mem) : Rz := RT 0 μ
def BX7_paint_93 (k81 : Int → Int → Int → Int → Int → Int → Int → Mem → Rz) (k93 : Int → Int → Int → Int → Int → Int → Int → Int → Mem → Rz) (x0 x1 x2 x3 x4 x5 x6 x7 : Int) (μ : Mem) : Rz := if w32 (x1 + x3) ≤ x7 then (k81 x0 x1 x2 x3 x4 x5 (w32 (x6 + 1)) μ) else (KD 7 x0 μ (CL (FX7_put x0 (w32 ((w32 (4 + (w32 (16 * x6)))) + x7)) x5 μ) fun _ u102 => k93 x0 x1 x2 x3 x4 x5 x6 (w32 (x7 + 1)) u102))
def LX7_paint_93 (k81 : Int → Int → Int → Int → Int → Int → Int → Mem → Rz) : Nat → Int → Int → Int → Int → Int → Int → Int → Int → Mem → Rz
  | 0, _, _, _, _, _, _, _, _, _ => none
  | n + 1, x0, x1, x2, x3, x4, x5, x6, x7, μ => BX7_paint_93 k81 (fun y0 y1 y2 y3 y4 y5 y6 y7 ν => LX7_paint_93 k81 n y0 y1 y2 y3 y4 y5 y6 y7 ν) x0 x1 x2 x3 x4 x5 x6 x7 μ
def BX7_paint_81 (k81 : Int → Int → Int → Int → Int → Int → Int → Mem → Rz) (x0 x1 x2 x3 x4 x5 x6 : Int) (μ : Mem) : Rz := if w32 (x2 + x4) ≤ x6 then (KD 7 x0 μ (CL (FX7_allDots x0 μ) fun t101 u102 => RT t101 u102)) else (LX7_paint_93 k81 FU x0 x1 x2 x3 x4 x5 x6 x1 μ)
def LX7_paint_81 : Nat → Int → Int → Int → Int → Int → Int → Int → Mem → Rz
  | 0, _, _, _, _, _, _, _, _ => none
  | n + 1, x0, x1, x2, x3, x4, x5, x6, μ => BX7_paint_81 (fun y0 y1 y2 y3 y4 y5 y6 ν => LX7_paint_81 n y0 y1 y2 y3 y4 y5 y6 ν) x0 x1 x2 x3 x4 x5 x6 μ
def BX7_paint_65 (x0 x1 x2 x3 x4 x5 s0 s1 : Int) (μ : Mem) : Rz := KD 7 s1 μ (CL (FX7_right s1 s0 2 μ) fun t101 u102 => if ¬ t101 = 0 then (KD 7 x0 u102 (CL (FX7_change x0 u102) fun _ u104 => LX7_paint_81 FU x0 x1 x2 x3 x4 x5 x2 u104)) else (BX7_paint_72 u102))
def BX7_paint_64 (x0 x1 x2 x3 x4 x5 s0 : Int) (μ : Mem) : Rz := BX7_paint_65 x0 x1 x2 x3 x4 x5 0 s0 μ
def BX7_paint_0 (x0 x1 x2 x3 x4 x5 : Int) (μ : Mem) : Rz := PF 7 0 x0 0 μ fun u101 => KD 7 x0 u101 (CL (FX7_isCell x0 x1 x2 u101) fun t102 u103 => KD 7 x0 u103 (CL (FX7_right x0 t102 1 u103) fun t104 u105 => if t104 = 0 then (BX7_paint_72 u105) else (KD 7 x0 u105 (CL (FX7_wide x0 u105) fun t106 u107 => CL (FX7_isIn x3 1 (w32 (t106 - x1)) u107) fun t108 u109 => if t108 = 0 then (BX7_paint_64 x0 x1 x2 x3 x4 x5 x0 u109) else (KD 7 x0 u109 (CL (FX7_high x0 u109) fun t110 u111 => CL (FX7_isIn x4 1 (w32 (t110 - x2)) u111) fun t112 u113 => if t112 = 0 then (BX7_paint_64 x0 x1 x2 x3 x4 x5 x0 u113) else (CL (FX7_isIn x5 0 100 u113) fun t114 u115 => if t114 = 0 then (BX7_paint_64 x0 x1 x2 x3 x4 x5 x0 u115) else (BX7_paint_65 x0 x1 x2 x3 x4 x5 1 x0 u115))))))))
def FX7_paint (a0 a1 a2 a3 a4 a5 : Int) (μ : Mem) : Rz := BX7_paint_0 a0 a1 a2 a3 a4 a5 μ
def BX7_plate_43 (s0 : Int) (μ : Mem) : Rz := RT s0 μ
def BX7_plate_42 (μ : Mem) : Rz := BX7_plate_43 0 μ
def BX7_plate_0 (x0 x1 x2 : Int) (μ : Mem) : Rz := PF 7 0 x0 0 μ fun u101 => KD 7 x0 u101 (CL (FX7_isPlate x0 x1 u101) fun t102 u103 => KD 7 x0 u103 (CL (FX7_right x0 t102 1 u103) fun t104 u105 => if t104 = 0 then (BX7_plate_42 u105) else (CL (FX7_isIn x2 0 10 u105) fun t106 u107 => KD 7 x0 u107 (CL (FX7_right x0 t106 2 u107) fun t108 u109 => if t108 = 0 then (BX7_plate_42 u109) else (KD 7 x0 u109 (CL (FX7_toldOfPlate x0 x1 x2 u109) fun t110 u111 => BX7_plate_43 t110 u111))))))
def FX7_plate (a0 a1 a2 : Int) (μ : Mem) : Rz := BX7_plate_0 a0 a1 a2 μ
def BX7_press_61 (k61 : Int → Int → Int → Mem → Rz) (x0 x3 x4 : Int) (μ : Mem) : Rz := KD 7 x0 μ (CL (FX7_plates x0 μ) fun t101 u102 => if t101 ≤ x4 then (RT x3 u102) else (KD 7 x0 u102 (CL (FX7_of x0 x4 12 u102) fun t103 u104 => KD 7 x0 u104 (CL (FX7_dots x0 x4 u104) fun t105 u106 => KD 7 x0 u106 (CL (FX7_puts x0 x4 12 (w32 (t103 - (w32 (x3 * t105)))) u106) fun _ u108 => k61 x0 x3 (w32 (x4 + 1)) u108)))))
def LX7_press_61 : Nat → Int → Int → Int → Mem → Rz
  | 0, _, _, _, _ => none
  | n + 1, x0, x3, x4, μ => BX7_press_61 (fun y0 y3 y4 ν => LX7_press_61 n y0 y3 y4 ν) x0 x3 x4 μ
def BX7_press_39 (x0 x1 x2 s0 s1 : Int) (μ : Mem) : Rz := KD 7 s1 μ (CL (FX7_right s1 s0 2 μ) fun t101 u102 => if ¬ t101 = 0 then (CL (FJ9_min_7cf53 x1 x2 u102) fun t103 u104 => KD 7 x0 u104 (CL (FX7_change x0 u104) fun _ u106 => LX7_press_61 FU x0 t103 0 u106)) else (RT 0 u102))
def BX7_press_0 (x0 x1 : Int) (μ : Mem) : Rz := PF 7 0 x0 0 μ fun u101 => CL (FX7_isIn x1 1 1000 u101) fun t102 u103 => KD 7 x0 u103 (CL (FX7_right x0 t102 1 u103) fun t104 u105 => if ¬ t104 = 0 then (KD 7 x0 u105 (CL (FX7_possible x0 u105) fun t106 u107 => if t106 = (-1) then (BX7_press_39 x0 x1 t106 0 x0 u107) else (BX7_press_39 x0 x1 t106 1 x0 u107))) else (RT 0 u105))
def FX7_press (a0 a1 : Int) (μ : Mem) : Rz := BX7_press_0 a0 a1 μ
def BX7_shape_32 (μ : Mem) : Rz := RT 0 μ
def BX7_shape_0 (x0 x1 x2 : Int) (μ : Mem) : Rz := PF 7 0 x0 0 μ fun u101 => KD 7 x0 u101 (CL (FX7_isPlate x0 x1 u101) fun t102 u103 => KD 7 x0 u103 (CL (FX7_right x0 t102 1 u103) fun t104 u105 => if t104 = 0 then (BX7_shape_32 u105) else (CL (FX7_isIn x2 0 3 u105) fun t106 u107 => KD 7 x0 u107 (CL (FX7_right x0 t106 2 u107) fun t108 u109 => if ¬ t108 = 0 then (KD 7 x0 u109 (CL (FX7_change x0 u109) fun _ u111 => KD 7 x0 u111 (CL (FX7_of x0 x1 9 u111) fun t112 u113 => KD 7 x0 u113 (CL (FX7_puts x0 x1 9 x2 u113) fun _ u115 => RT t112 u115)))) else (BX7_shape_32 u109)))))
def FX7_shape (a0 a1 a2 : Int) (μ : Mem) : Rz := BX7_shape_0 a0 a1 a2 μ
def BX7_shift_51 (μ : Mem) : Rz := RT 0 μ
def BX7_shift_44 (x0 x1 x2 x3 s0 s1 : Int) (μ : Mem) : Rz := KD 7 s1 μ (CL (FX7_right s1 s0 2 μ) fun t101 u102 => if ¬ t101 = 0 then (KD 7 x0 u102 (CL (FX7_change x0 u102) fun _ u104 => KD 7 x0 u104 (CL (FX7_puts x0 x1 10 x2 u104) fun _ u106 => KD 7 x0 u106 (CL (FX7_puts x0 x1 11 x3 u106) fun _ u108 => KD 7 x0 u108 (CL (FX7_allDots x0 u108) fun t109 u110 => RT t109 u110))))) else (BX7_shift_51 u102))
def BX7_shift_43 (x0 x1 x2 x3 s0 : Int) (μ : Mem) : Rz := BX7_shift_44 x0 x1 x2 x3 0 s0 μ
def BX7_shift_0 (x0 x1 x2 x3 : Int) (μ : Mem) : Rz := PF 7 0 x0 0 μ fun u101 => KD 7 x0 u101 (CL (FX7_isPlate x0 x1 u101) fun t102 u103 => KD 7 x0 u103 (CL (FX7_right x0 t102 1 u103) fun t104 u105 => if t104 = 0 then (BX7_shift_51 u105) else (CL (FX7_isIn x2 0 17 u105) fun t106 u107 => if t106 = 0 then (BX7_shift_43 x0 x1 x2 x3 x0 u107) else (CL (FX7_isIn x3 0 17 u107) fun t108 u109 => if t108 = 0 then (BX7_shift_43 x0 x1 x2 x3 x0 u109) else (BX7_shift_44 x0 x1 x2 x3 1 x0 u109)))))
def FX7_shift (a0 a1 a2 a3 : Int) (μ : Mem) : Rz := BX7_shift_0 a0 a1 a2 a3 μ
def BX7_state_29 (s0 : Int) (μ : Mem) : Rz := RT s0 μ
def BX7_state_0 (x0 x1 : Int) (μ : Mem) : Rz := PF 7 0 x0 0 μ fun u101 => CL (FX7_isIn x1 0 8 u101) fun t102 u103 => KD 7 x0 u103 (CL (FX7_right x0 t102 1 u103) fun t104 u105 => if t104 = 0 then (BX7_state_29 0 u105) else (KD 7 x0 u105 (CL (FX7_toldOf x0 x1 u105) fun t106 u107 => BX7_state_29 t106 u107)))
def FX7_state (a0 a1 : Int) (μ : Mem) : Rz := BX7_state_0 a0 a1 μ
def BX7_thrown_0 (x0 : Int) (μ : Mem) : Rz := GF 7 0 x0 μ fun t101 => RT t101 μ
def FX7_thrown (a0 : Int) (μ : Mem) : Rz := BX7_thrown_0 a0 μ
def BX7_tone_29 (s0 : Int) (μ : Mem) : Rz := RT s0 μ
def BX7_tone_0 (x0 x1 x2 : Int) (μ : Mem) : Rz := PF 7 0 x0 0 μ fun u101 => KD 7 x0 u101 (CL (FX7_isCell x0 x1 x2 u101) fun t102 u103 => KD 7 x0 u103 (CL (FX7_right x0 t102 1 u103) fun t104 u105 => if t104 = 0 then (BX7_tone_29 0 u105) else (KD 7 x0 u105 (CL (FX7_toneAt x0 x1 x2 u105) fun t106 u107 => BX7_tone_29 t106 u107))))
def FX7_tone (a0 a1 a2 : Int) (μ : Mem) : Rz := BX7_tone_0 a0 a1 a2 μ
def BX7_turn_55 (μ : Mem) : Rz := RT 0 μ
def BX7_turn_48 (x0 x1 x2 x3 s0 s1 : Int) (μ : Mem) : Rz := KD 7 s1 μ (CL (FX7_right s1 s0 2 μ) fun t101 u102 => if ¬ t101 = 0 then (KD 7 x0 u102 (CL (FX7_change x0 u102) fun _ u104 => KD 7 x0 u104 (CL (FX7_puts x0 x1 7 x2 u104) fun _ u106 => KD 7 x0 u106 (CL (FX7_puts x0 x1 8 x3 u106) fun _ u108 => KD 7 x0 u108 (CL (FX7_squareOf x0 x1 u108) fun t109 u110 => RT t109 u110))))) else (BX7_turn_55 u102))
def BX7_turn_47 (x0 x1 x2 x3 s0 : Int) (μ : Mem) : Rz := BX7_turn_48 x0 x1 x2 x3 0 s0 μ
def BX7_turn_0 (x0 x1 x2 x3 : Int) (μ : Mem) : Rz := PF 7 0 x0 0 μ fun u101 => KD 7 x0 u101 (CL (FX7_isPlate x0 x1 u101) fun t102 u103 => KD 7 x0 u103 (CL (FX7_right x0 t102 1 u103) fun t104 u105 => if t104 = 0 then (BX7_turn_55 u105) else (CL (FX7_isIn x2 0 3 u105) fun t106 u107 => if t106 = 0 then (BX7_turn_47 x0 x1 x2 x3 x0 u107) else (CL (FX7_isIn x3 0 3 u107) fun t108 u109 => if t108 = 0 then (BX7_turn_47 x0 x1 x2 x3 x0 u109) else (if w32 (x2 + x3) ≤ 0 then (BX7_turn_47 x0 x1 x2 x3 x0 u109) else (BX7_turn_48 x0 x1 x2 x3 1 x0 u109))))))
def FX7_turn (a0 a1 a2 a3 : Int) (μ : Mem) : Rz := BX7_turn_0 a0 a1 a2 a3 μ
def BX7_undo_0 (x0 : Int) (μ : Mem) : Rz := PF 7 0 x0 0 μ fun u101 => GF 7 4 x0 u101 fun t102 => if ¬ t102 = 0 then (GF 7 4 x0 u101 fun t103 => PF 7 4 x0 (w32 (t103 - 1)) u101 fun u104 => GF 7 3 x0 u104 fun t105 => RM (w32 ((w32 (t105 + 9)) - 1)) 9 fun t106 => PF 7 3 x0 t106 u104 fun u107 => PZ 7 10 x0 0 u107 fun u108 => GF 7 4 x0 u108 fun t109 => RT t109 u108) else (RT (-1) u101)
def FX7_undo (a0 : Int) (μ : Mem) : Rz := BX7_undo_0 a0 μ
def BX7_why_84 (s0 : Int) (μ : Mem) : Rz := RT s0 μ
def BX7_why_28 (x0 x1 x2 x3 s0 s1 : Int) (μ : Mem) : Rz := KD 7 s1 μ (CL (FX7_right s1 s0 1 μ) fun t101 u102 => if ¬ t101 = 0 then (KD 7 x0 u102 (CL (FX7_lays x0 u102) fun _ u104 => KD 7 x0 u104 (CL (FX7_isCleaned x0 x1 x2 x3 u104) fun t105 u106 => if t105 = 0 then (KD 7 x0 u106 (CL (FX7_isWanted x0 x1 (w32 ((w32 (16 * x3)) + x2)) u106) fun t107 u108 => if ¬ t107 = 0 then (KD 7 x0 u108 (CL (FX7_hasDot x0 x1 x2 x3 u108) fun t109 u110 => if t109 = 0 then (BX7_why_84 3 u110) else (BX7_why_84 0 u110))) else (RT 2 u108))) else (RT 1 u106)))) else (RT 0 u102))
def BX7_why_27 (x0 x1 x2 x3 s0 : Int) (μ : Mem) : Rz := BX7_why_28 x0 x1 x2 x3 0 s0 μ
def BX7_why_0 (x0 x1 x2 x3 : Int) (μ : Mem) : Rz := PF 7 0 x0 0 μ fun u101 => KD 7 x0 u101 (CL (FX7_isPlate x0 x1 u101) fun t102 u103 => if t102 = 0 then (BX7_why_27 x0 x1 x2 x3 x0 u103) else (KD 7 x0 u103 (CL (FX7_isCell x0 x2 x3 u103) fun t104 u105 => if t104 = 0 then (BX7_why_27 x0 x1 x2 x3 x0 u105) else (BX7_why_28 x0 x1 x2 x3 1 x0 u105))))
def FX7_why (a0 a1 a2 a3 : Int) (μ : Mem) : Rz := BX7_why_0 a0 a1 a2 a3 μ
def BX7_worst_89 (s0 : Int) (μ : Mem) : Rz := RT s0 μ
def BX7_worst_68 (k12 : Int → Int → Int → Int → Int → Mem → Rz) (k27 : Int → Int → Int → Int → Int → Int → Mem → Rz) (x0 x1 x2 x3 x4 x5 : Int) (μ : Mem) : Rz := k27 x0 x1 x2 x3 x4 (w32 (x5 + 1)) μ
def BX7_worst_62 (k12 : Int → Int → Int → Int → Int → Mem → Rz) (k27 : Int → Int → Int → Int → Int → Int → Mem → Rz) (x0 x1 x4 x5 : Int) (μ : Mem) : Rz := BX7_worst_68 k12 k27 x0 x1 x4 x5 x4 x5 μ
def BX7_worst_27 (k12 : Int → Int → Int → Int → Int → Mem → Rz) (k27 : Int → Int → Int → Int → Int → Int → Mem → Rz) (x0 x1 x2 x3 x4 x5 : Int) (μ : Mem) : Rz := KD 7 x0 μ (CL (FX7_plates x0 μ) fun t101 u102 => if t101 ≤ x5 then (k12 x0 x1 x2 x3 (w32 (x4 + 1)) u102) else (if x2 = (-1) then (BX7_worst_62 k12 k27 x0 x1 x4 x5 u102) else (KD 7 x0 u102 (CL (FX7_moireAt x0 x4 x5 u102) fun t103 u104 => KD 7 x0 u104 (CL (FX7_moireAt x0 x2 x3 u104) fun t105 u106 => if 0 < dCmp .g t103 t105 then (BX7_worst_62 k12 k27 x0 x1 x4 x5 u106) else (BX7_worst_68 k12 k27 x0 x1 x2 x3 x4 x5 u106))))))
def LX7_worst_27 (k12 : Int → Int → Int → Int → Int → Mem → Rz) : Nat → Int → Int → Int → Int → Int → Int → Mem → Rz
  | 0, _, _, _, _, _, _, _ => none
  | n + 1, x0, x1, x2, x3, x4, x5, μ => BX7_worst_27 k12 (fun y0 y1 y2 y3 y4 y5 ν => LX7_worst_27 k12 n y0 y1 y2 y3 y4 y5 ν) x0 x1 x2 x3 x4 x5 μ
def BX7_worst_12 (k12 : Int → Int → Int → Int → Int → Mem → Rz) (x0 x1 x2 x3 x4 : Int) (μ : Mem) : Rz := KD 7 x0 μ (CL (FX7_plates x0 μ) fun t101 u102 => if t101 ≤ x4 then (if x1 = 0 then (BX7_worst_89 x2 u102) else (BX7_worst_89 x3 u102)) else (LT (w32 (x4 + 1)) fun x103 => LX7_worst_27 k12 FU x0 x1 x2 x3 x4 x103 u102))
def LX7_worst_12 : Nat → Int → Int → Int → Int → Int → Mem → Rz
  | 0, _, _, _, _, _, _ => none
  | n + 1, x0, x1, x2, x3, x4, μ => BX7_worst_12 (fun y0 y1 y2 y3 y4 ν => LX7_worst_12 n y0 y1 y2 y3 y4 ν) x0 x1 x2 x3 x4 μ
def BX7_worst_0 (x0 x1 : Int) (μ : Mem) : Rz := PF 7 0 x0 0 μ fun u101 => LX7_worst_12 FU x0 x1 (-1) (-1) 0 u101
def FX7_worst (a0 a1 : Int) (μ : Mem) : Rz := BX7_worst_0 a0 a1 μ
def BL_bestTurn_0 (x0 x1 x2 : Int) (μ : Mem) : Rz := KD 6 x0 μ (CLX (FX6_bestTurn x0 x1 μ) (fun t101 u102 => AS 2 x2 0 t101 u102 fun u103 => RT 0 u103) (fun e _ ν => if e = 1 then (RT 1 ν) else none))
def FL_bestTurn (a0 a1 a2 : Int) (μ : Mem) : Rz := BL_bestTurn_0 a0 a1 a2 μ
def BL_cell_0 (x0 x1 x2 x3 x4 x5 : Int) (μ : Mem) : Rz := KD 6 x0 μ (CLX (FX6_cell x0 x1 x2 x3 x4 μ) (fun t101 u102 => AS 2 x5 0 t101 u102 fun u103 => RT 0 u103) (fun e _ ν => if e = 1 then (RT 1 ν) else (if e = 2 then (RT 2 ν) else none)))
def FL_cell (a0 a1 a2 a3 a4 a5 : Int) (μ : Mem) : Rz := BL_cell_0 a0 a1 a2 a3 a4 a5 μ
def BL_cellsWith_0 (x0 x1 x2 : Int) (μ : Mem) : Rz := KD 6 x0 μ (CLX (FX6_cellsWith x0 x1 μ) (fun t101 u102 => AS 2 x2 0 t101 u102 fun u103 => RT 0 u103) (fun e _ ν => if e = 2 then (RT 1 ν) else none))
def FL_cellsWith (a0 a1 a2 : Int) (μ : Mem) : Rz := BL_cellsWith_0 a0 a1 a2 μ
def BL_clean_0 (x0 x1 x2 : Int) (μ : Mem) : Rz := KD 6 x0 μ (CLX (FX6_clean x0 x1 μ) (fun t101 u102 => AS 2 x2 0 t101 u102 fun u103 => RT 0 u103) (fun e _ ν => if e = 1 then (RT 1 ν) else none))
def FL_clean (a0 a1 a2 : Int) (μ : Mem) : Rz := BL_clean_0 a0 a1 a2 μ
def BL_covered_0 (x0 x1 x2 : Int) (μ : Mem) : Rz := KD 6 x0 μ (CLX (FX6_covered x0 x1 μ) (fun t101 u102 => DF t101 fun t103 => AS 3 x2 0 t103 u102 fun u104 => RT 0 u104) (fun e _ ν => if e = 1 then (RT 1 ν) else none))
def FL_covered (a0 a1 a2 : Int) (μ : Mem) : Rz := BL_covered_0 a0 a1 a2 μ
def BL_dirty_0 (x0 x1 x2 : Int) (μ : Mem) : Rz := KD 6 x0 μ (CLX (FX6_dirty x0 x1 μ) (fun t101 u102 => AS 2 x2 0 t101 u102 fun u103 => RT 0 u103) (fun e _ ν => if e = 1 then (RT 1 ν) else none))
def FL_dirty (a0 a1 a2 : Int) (μ : Mem) : Rz := BL_dirty_0 a0 a1 a2 μ
def BL_fill_0 (x0 x1 x2 x3 : Int) (μ : Mem) : Rz := KD 6 x0 μ (CLX (FX6_fill x0 x1 x2 μ) (fun t101 u102 => AS 2 x3 0 t101 u102 fun u103 => RT 0 u103) (fun e _ ν => if e = 1 then (RT 1 ν) else (if e = 2 then (RT 2 ν) else none)))
def FL_fill (a0 a1 a2 a3 : Int) (μ : Mem) : Rz := BL_fill_0 a0 a1 a2 a3 μ
def BL_find_0 (x0 x1 x2 : Int) (μ : Mem) : Rz := KD 6 x0 μ (CLX (FX6_find x0 x1 μ) (fun t101 u102 => AS 2 x2 0 t101 u102 fun u103 => RT 0 u103) (fun e _ ν => if e = 2 then (RT 1 ν) else none))
def FL_find (a0 a1 a2 : Int) (μ : Mem) : Rz := BL_find_0 a0 a1 a2 μ
def BL_inks_0 (x0 x1 x2 x3 : Int) (μ : Mem) : Rz := KD 6 x0 μ (CLX (FX6_inks x0 x1 x2 μ) (fun t101 u102 => AS 2 x3 0 t101 u102 fun u103 => RT 0 u103) (fun e _ ν => if e = 1 then (RT 1 ν) else none))
def FL_inks (a0 a1 a2 a3 : Int) (μ : Mem) : Rz := BL_inks_0 a0 a1 a2 a3 μ
def BL_limit_0 (x0 x1 x2 : Int) (μ : Mem) : Rz := KD 6 x0 μ (CLX (FX6_limit x0 x1 μ) (fun t101 u102 => AS 2 x2 0 t101 u102 fun u103 => RT 0 u103) (fun e _ ν => if e = 2 then (RT 1 ν) else none))
def FL_limit (a0 a1 a2 : Int) (μ : Mem) : Rz := BL_limit_0 a0 a1 a2 μ
def BL_load_0 (x0 x1 x2 : Int) (μ : Mem) : Rz := KD 6 x0 μ (CLX (FX6_load x0 x1 μ) (fun t101 u102 => AS 2 x2 0 t101 u102 fun u103 => RT 0 u103) (fun e _ ν => if e = 2 then (RT 1 ν) else none))
def FL_load (a0 a1 a2 : Int) (μ : Mem) : Rz := BL_load_0 a0 a1 a2 μ
def BL_moire_0 (x0 x1 x2 x3 : Int) (μ : Mem) : Rz := KD 6 x0 μ (CLX (FX6_moire x0 x1 x2 μ) (fun t101 u102 => AS 3 x3 0 t101 u102 fun u103 => RT 0 u103) (fun e _ ν => if e = 1 then (RT 1 ν) else none))
def FL_moire (a0 a1 a2 a3 : Int) (μ : Mem) : Rz := BL_moire_0 a0 a1 a2 a3 μ
def BL_off_0 (x0 x1 x2 x3 : Int) (μ : Mem) : Rz := KD 6 x0 μ (CLX (FX6_off x0 x1 x2 μ) (fun t101 u102 => AS 2 x3 0 t101 u102 fun u103 => RT 0 u103) (fun e _ ν => if e = 1 then (RT 1 ν) else (if e = 4 then (RT 2 ν) else none)))
def FL_off (a0 a1 a2 a3 : Int) (μ : Mem) : Rz := BL_off_0 a0 a1 a2 a3 μ
def BL_paint_0 (x0 x1 x2 x3 x4 x5 x6 : Int) (μ : Mem) : Rz := KD 6 x0 μ (CLX (FX6_paint x0 x1 x2 x3 x4 x5 μ) (fun t101 u102 => AS 2 x6 0 t101 u102 fun u103 => RT 0 u103) (fun e _ ν => if e = 1 then (RT 1 ν) else (if e = 2 then (RT 2 ν) else none)))
def FL_paint (a0 a1 a2 a3 a4 a5 a6 : Int) (μ : Mem) : Rz := BL_paint_0 a0 a1 a2 a3 a4 a5 a6 μ
def BL_plate_0 (x0 x1 x2 x3 : Int) (μ : Mem) : Rz := KD 6 x0 μ (CLX (FX6_plate x0 x1 x2 μ) (fun t101 u102 => AS 2 x3 0 t101 u102 fun u103 => RT 0 u103) (fun e _ ν => if e = 1 then (RT 1 ν) else (if e = 2 then (RT 2 ν) else none)))
def FL_plate (a0 a1 a2 a3 : Int) (μ : Mem) : Rz := BL_plate_0 a0 a1 a2 a3 μ
def BL_press_0 (x0 x1 x2 : Int) (μ : Mem) : Rz := KD 6 x0 μ (CLX (FX6_press x0 x1 μ) (fun t101 u102 => AS 2 x2 0 t101 u102 fun u103 => RT 0 u103) (fun e _ ν => if e = 2 then (RT 1 ν) else (if e = 3 then (RT 2 ν) else none)))
def FL_press (a0 a1 a2 : Int) (μ : Mem) : Rz := BL_press_0 a0 a1 a2 μ
def BL_shape_0 (x0 x1 x2 x3 : Int) (μ : Mem) : Rz := KD 6 x0 μ (CLX (FX6_shape x0 x1 x2 μ) (fun t101 u102 => AS 2 x3 0 t101 u102 fun u103 => RT 0 u103) (fun e _ ν => if e = 1 then (RT 1 ν) else (if e = 2 then (RT 2 ν) else none)))
def FL_shape (a0 a1 a2 a3 : Int) (μ : Mem) : Rz := BL_shape_0 a0 a1 a2 a3 μ
def BL_shift_0 (x0 x1 x2 x3 x4 : Int) (μ : Mem) : Rz := KD 6 x0 μ (CLX (FX6_shift x0 x1 x2 x3 μ) (fun t101 u102 => AS 2 x4 0 t101 u102 fun u103 => RT 0 u103) (fun e _ ν => if e = 1 then (RT 1 ν) else (if e = 2 then (RT 2 ν) else none)))
def FL_shift (a0 a1 a2 a3 a4 : Int) (μ : Mem) : Rz := BL_shift_0 a0 a1 a2 a3 a4 μ
def BL_state_0 (x0 x1 x2 : Int) (μ : Mem) : Rz := KD 6 x0 μ (CLX (FX6_state x0 x1 μ) (fun t101 u102 => AS 2 x2 0 t101 u102 fun u103 => RT 0 u103) (fun e _ ν => if e = 2 then (RT 1 ν) else none))
def FL_state (a0 a1 a2 : Int) (μ : Mem) : Rz := BL_state_0 a0 a1 a2 μ
def BL_tone_0 (x0 x1 x2 x3 : Int) (μ : Mem) : Rz := KD 6 x0 μ (CLX (FX6_tone x0 x1 x2 μ) (fun t101 u102 => AS 2 x3 0 t101 u102 fun u103 => RT 0 u103) (fun e _ ν => if e = 1 then (RT 1 ν) else none))
def FL_tone (a0 a1 a2 a3 : Int) (μ : Mem) : Rz := BL_tone_0 a0 a1 a2 a3 μ
def BL_turn_0 (x0 x1 x2 x3 x4 : Int) (μ : Mem) : Rz := KD 6 x0 μ (CLX (FX6_turn x0 x1 x2 x3 μ) (fun t101 u102 => AS 2 x4 0 t101 u102 fun u103 => RT 0 u103) (fun e _ ν => if e = 1 then (RT 1 ν) else (if e = 2 then (RT 2 ν) else none)))
def FL_turn (a0 a1 a2 a3 a4 : Int) (μ : Mem) : Rz := BL_turn_0 a0 a1 a2 a3 a4 μ
def BL_why_0 (x0 x1 x2 x3 x4 : Int) (μ : Mem) : Rz := KD 6 x0 μ (CLX (FX6_why x0 x1 x2 x3 μ) (fun t101 u102 => AS 2 x4 0 t101 u102 fun u103 => RT 0 u103) (fun e _ ν => if e = 1 then (RT 1 ν) else none))
def FL_why (a0 a1 a2 a3 a4 : Int) (μ : Mem) : Rz := BL_why_0 a0 a1 a2 a3 a4 μ
def BL_law_1854 (sc : Int → Int) (L : Int) (k28 : Int → Int → Int → Int → Int → Mem → Rz) (x1 x2 x3 x4 x5 : Int) (μ : Mem) : Rz := k28 x1 x2 x3 x4 (w32 (x5 + 6)) μ
def BL_law_298 (sc : Int → Int) (L : Int) (k28 : Int → Int → Int → Int → Int → Mem → Rz) (x1 x2 x3 x4 x5 : Int) (μ : Mem) : Rz := BL_law_1854 sc L k28 x1 x2 x3 x4 x5 μ
def BL_law_367 (sc : Int → Int) (L : Int) (k28 : Int → Int → Int → Int → Int → Mem → Rz) (x1 x2 x3 x4 x5 : Int) (μ : Mem) : Rz := BL_law_1854 sc L k28 x1 x2 x3 x4 x5 μ
def BL_law_423 (sc : Int → Int) (L : Int) (k28 : Int → Int → Int → Int → Int → Mem → Rz) (x1 x2 x3 x4 x5 : Int) (μ : Mem) : Rz := BL_law_1854 sc L k28 x1 x2 x3 x4 x5 μ
def BL_law_491 (sc : Int → Int) (L : Int) (k28 : Int → Int → Int → Int → Int → Mem → Rz) (x1 x2 x3 x4 x5 : Int) (μ : Mem) : Rz := BL_law_1854 sc L k28 x1 x2 x3 x4 x5 μ
def BL_law_583 (sc : Int → Int) (L : Int) (k28 : Int → Int → Int → Int → Int → Mem → Rz) (x1 x2 x3 x4 x5 : Int) (μ : Mem) : Rz := BL_law_1854 sc L k28 x1 x2 x3 x4 x5 μ
def BL_law_651 (sc : Int → Int) (L : Int) (k28 : Int → Int → Int → Int → Int → Mem → Rz) (x1 x2 x3 x4 x5 : Int) (μ : Mem) : Rz := BL_law_1854 sc L k28 x1 x2 x3 x4 x5 μ
def BL_law_719 (sc : Int → Int) (L : Int) (k28 : Int → Int → Int → Int → Int → Mem → Rz) (x1 x2 x3 x4 x5 : Int) (μ : Mem) : Rz := BL_law_1854 sc L k28 x1 x2 x3 x4 x5 μ
def BL_law_799 (sc : Int → Int) (L : Int) (k28 : Int → Int → Int → Int → Int → Mem → Rz) (x1 x2 x3 x4 x5 : Int) (μ : Mem) : Rz := BL_law_1854 sc L k28 x1 x2 x3 x4 x5 μ
def BL_law_867 (sc : Int → Int) (L : Int) (k28 : Int → Int → Int → Int → Int → Mem → Rz) (x1 x2 x3 x4 x5 : Int) (μ : Mem) : Rz := BL_law_1854 sc L k28 x1 x2 x3 x4 x5 μ
def BL_law_945 (sc : Int → Int) (L : Int) (k28 : Int → Int → Int → Int → Int → Mem → Rz) (x1 x2 x3 x4 x5 : Int) (μ : Mem) : Rz := BL_law_1854 sc L k28 x1 x2 x3 x4 x5 μ
def BL_law_943 (sc : Int → Int) (L : Int) (μ : Mem) : Rz := RTL 0 μ
def BL_law_1034 (sc : Int → Int) (L : Int) (k28 : Int → Int → Int → Int → Int → Mem → Rz) (x1 x2 x3 x4 x5 : Int) (μ : Mem) : Rz := BL_law_1854 sc L k28 x1 x2 x3 x4 x5 μ
def BL_law_1032 (sc : Int → Int) (L : Int) (μ : Mem) : Rz := RTL 0 μ
def BL_law_1070 (sc : Int → Int) (L : Int) (k28 : Int → Int → Int → Int → Int → Mem → Rz) (x1 x2 x3 x4 x5 s0 s1 s2 : Int) (μ : Mem) : Rz := KD 7 s1 μ (CLZ (FX7_worst s1 s0 μ) fun t101 u102 => if s2 = t101 then (BL_law_1854 sc L k28 x1 x2 x3 x4 x5 u102) else (RTL 0 u102))
def BL_law_1052 (sc : Int → Int) (L : Int) (k28 : Int → Int → Int → Int → Int → Mem → Rz) (x1 x2 x3 x4 x5 s0 s1 : Int) (μ : Mem) : Rz := KD 6 s1 μ (CLZ (FX6_worst s1 s0 μ) fun t101 u102 => SC1 sc L (w32 (x5 + 1)) fun t104 => if t104 = 0 then (BL_law_1070 sc L k28 x1 x2 x3 x4 x5 0 x2 t101 u102) else (BL_law_1070 sc L k28 x1 x2 x3 x4 x5 1 x2 t101 u102))
def BL_law_1131 (sc : Int → Int) (L : Int) (k28 : Int → Int → Int → Int → Int → Mem → Rz) (x1 x2 x3 x4 x5 : Int) (μ : Mem) : Rz := BL_law_1854 sc L k28 x1 x2 x3 x4 x5 μ
def BL_law_1200 (sc : Int → Int) (L : Int) (k28 : Int → Int → Int → Int → Int → Mem → Rz) (x1 x2 x3 x4 x5 : Int) (μ : Mem) : Rz := BL_law_1854 sc L k28 x1 x2 x3 x4 x5 μ
def BL_law_1304 (sc : Int → Int) (L : Int) (k28 : Int → Int → Int → Int → Int → Mem → Rz) (x1 x2 x3 x4 x5 : Int) (μ : Mem) : Rz := BL_law_1854 sc L k28 x1 x2 x3 x4 x5 μ
def BL_law_1384 (sc : Int → Int) (L : Int) (k28 : Int → Int → Int → Int → Int → Mem → Rz) (x1 x2 x3 x4 x5 : Int) (μ : Mem) : Rz := BL_law_1854 sc L k28 x1 x2 x3 x4 x5 μ
def BL_law_1452 (sc : Int → Int) (L : Int) (k28 : Int → Int → Int → Int → Int → Mem → Rz) (x1 x2 x3 x4 x5 : Int) (μ : Mem) : Rz := BL_law_1854 sc L k28 x1 x2 x3 x4 x5 μ
def BL_law_1532 (sc : Int → Int) (L : Int) (k28 : Int → Int → Int → Int → Int → Mem → Rz) (x1 x2 x3 x4 x5 : Int) (μ : Mem) : Rz := BL_law_1854 sc L k28 x1 x2 x3 x4 x5 μ
def BL_law_1588 (sc : Int → Int) (L : Int) (k28 : Int → Int → Int → Int → Int → Mem → Rz) (x1 x2 x3 x4 x5 : Int) (μ : Mem) : Rz := BL_law_1854 sc L k28 x1 x2 x3 x4 x5 μ
def BL_law_1644 (sc : Int → Int) (L : Int) (k28 : Int → Int → Int → Int → Int → Mem → Rz) (x1 x2 x3 x4 x5 : Int) (μ : Mem) : Rz := BL_law_1854 sc L k28 x1 x2 x3 x4 x5 μ
def BL_law_1700 (sc : Int → Int) (L : Int) (k28 : Int → Int → Int → Int → Int → Mem → Rz) (x1 x2 x3 x4 x5 : Int) (μ : Mem) : Rz := BL_law_1854 sc L k28 x1 x2 x3 x4 x5 μ
def BL_law_1768 (sc : Int → Int) (L : Int) (k28 : Int → Int → Int → Int → Int → Mem → Rz) (x1 x2 x3 x4 x5 : Int) (μ : Mem) : Rz := BL_law_1854 sc L k28 x1 x2 x3 x4 x5 μ
def BL_law_1824 (sc : Int → Int) (L : Int) (k28 : Int → Int → Int → Int → Int → Mem → Rz) (x1 x2 x3 x4 x5 : Int) (μ : Mem) : Rz := BL_law_1854 sc L k28 x1 x2 x3 x4 x5 μ
def BL_law_28 (sc : Int → Int) (L : Int) (k28 : Int → Int → Int → Int → Int → Mem → Rz) (x1 x2 x3 x4 x5 : Int) (μ : Mem) : Rz := if w32 (L - 6) < x5 then (RTL 1 μ) else (SC1 sc L x5 fun t102 => SW (bAnd t102 31) 0 [SC1 sc L (w32 (x5 + 1)) fun t104 => SC1 sc L (w32 (x5 + 2)) fun t106 => SC1 sc L (w32 (x5 + 3)) fun t108 => SC1 sc L (w32 (x5 + 4)) fun t110 => SC1 sc L (w32 (x5 + 5)) fun t112 => KD 6 x1 μ (CLZ (FX6_append x1 t104 t106 t108 t110 t112 μ) fun t113 u114 => SC1 sc L (w32 (x5 + 1)) fun t116 => SC1 sc L (w32 (x5 + 2)) fun t118 => SC1 sc L (w32 (x5 + 3)) fun t120 => SC1 sc L (w32 (x5 + 4)) fun t122 => SC1 sc L (w32 (x5 + 5)) fun t124 => KD 7 x2 u114 (CLZ (FX7_append x2 t116 t118 t120 t122 t124 u114) fun t125 u126 => if t113 = t125 then (BL_law_1854 sc L k28 x1 x2 x3 x4 x5 u126) else (RTL 0 u126))), SC1 sc L (w32 (x5 + 1)) fun t128 => CLZ (FL_load x1 t128 x3 μ) fun t129 u130 => SC1 sc L (w32 (x5 + 1)) fun t132 => KD 7 x2 u130 (CLZ (FX7_load x2 t132 u130) fun t133 u134 => KD 7 x2 u134 (CLZ (FX7_thrown x2 u134) fun t135 u136 => if t135 = t129 then (if ¬ t129 = 0 then (BL_law_298 sc L k28 x1 x2 x3 x4 x5 u136) else (AL 2 x3 0 u136 fun t137 => if cLong t137 t133 = 0 then (BL_law_298 sc L k28 x1 x2 x3 x4 x5 u136) else (RTL 0 u136))) else (RTL 0 u136))), KD 6 x1 μ (CLZ (FX6_errorOffset x1 μ) fun t138 u139 => KD 7 x2 u139 (CLZ (FX7_errorOffset x2 u139) fun t140 u141 => if t138 = t140 then (BL_law_1854 sc L k28 x1 x2 x3 x4 x5 u141) else (RTL 0 u141))), SC1 sc L (w32 (x5 + 1)) fun t143 => CLZ (FL_state x1 t143 x3 μ) fun t144 u145 => SC1 sc L (w32 (x5 + 1)) fun t147 => KD 7 x2 u145 (CLZ (FX7_state x2 t147 u145) fun t148 u149 => KD 7 x2 u149 (CLZ (FX7_thrown x2 u149) fun t150 u151 => if t150 = t144 then (if ¬ t144 = 0 then (BL_law_367 sc L k28 x1 x2 x3 x4 x5 u151) else (AL 2 x3 0 u151 fun t152 => if cLong t152 t148 = 0 then (BL_law_367 sc L k28 x1 x2 x3 x4 x5 u151) else (RTL 0 u151))) else (RTL 0 u151))), SC1 sc L (w32 (x5 + 1)) fun t154 => CLZ (FL_find x1 t154 x3 μ) fun t155 u156 => SC1 sc L (w32 (x5 + 1)) fun t158 => KD 7 x2 u156 (CLZ (FX7_find x2 t158 u156) fun t159 u160 => KD 7 x2 u160 (CLZ (FX7_thrown x2 u160) fun t161 u162 => if t161 = t155 then (if ¬ t155 = 0 then (BL_law_423 sc L k28 x1 x2 x3 x4 x5 u162) else (AL 2 x3 0 u162 fun t163 => if cLong t163 t159 = 0 then (BL_law_423 sc L k28 x1 x2 x3 x4 x5 u162) else (RTL 0 u162))) else (RTL 0 u162))), SC1 sc L (w32 (x5 + 1)) fun t165 => SC1 sc L (w32 (x5 + 2)) fun t167 => CLZ (FL_plate x1 t165 t167 x3 μ) fun t168 u169 => SC1 sc L (w32 (x5 + 1)) fun t171 => SC1 sc L (w32 (x5 + 2)) fun t173 => KD 7 x2 u169 (CLZ (FX7_plate x2 t171 t173 u169) fun t174 u175 => KD 7 x2 u175 (CLZ (FX7_thrown x2 u175) fun t176 u177 => if t176 = t168 then (if ¬ t168 = 0 then (BL_law_491 sc L k28 x1 x2 x3 x4 x5 u177) else (AL 2 x3 0 u177 fun t178 => if cLong t178 t174 = 0 then (BL_law_491 sc L k28 x1 x2 x3 x4 x5 u177) else (RTL 0 u177))) else (RTL 0 u177))), SC1 sc L (w32 (x5 + 1)) fun t180 => SC1 sc L (w32 (x5 + 2)) fun t182 => SC1 sc L (w32 (x5 + 3)) fun t184 => SC1 sc L (w32 (x5 + 4)) fun t186 => CLZ (FL_cell x1 t180 t182 t184 t186 x3 μ) fun t187 u188 => SC1 sc L (w32 (x5 + 1)) fun t190 => SC1 sc L (w32 (x5 + 2)) fun t192 => SC1 sc L (w32 (x5 + 3)) fun t194 => SC1 sc L (w32 (x5 + 4)) fun t196 => KD 7 x2 u188 (CLZ (FX7_cell x2 t190 t192 t194 t196 u188) fun t197 u198 => KD 7 x2 u198 (CLZ (FX7_thrown x2 u198) fun t199 u200 => if t199 = t187 then (if ¬ t187 = 0 then (BL_law_583 sc L k28 x1 x2 x3 x4 x5 u200) else (AL 2 x3 0 u200 fun t201 => if cLong t201 t197 = 0 then (BL_law_583 sc L k28 x1 x2 x3 x4 x5 u200) else (RTL 0 u200))) else (RTL 0 u200))), SC1 sc L (w32 (x5 + 1)) fun t203 => SC1 sc L (w32 (x5 + 2)) fun t205 => CLZ (FL_tone x1 t203 t205 x3 μ) fun t206 u207 => SC1 sc L (w32 (x5 + 1)) fun t209 => SC1 sc L (w32 (x5 + 2)) fun t211 => KD 7 x2 u207 (CLZ (FX7_tone x2 t209 t211 u207) fun t212 u213 => KD 7 x2 u213 (CLZ (FX7_thrown x2 u213) fun t214 u215 => if t214 = t206 then (if ¬ t206 = 0 then (BL_law_651 sc L k28 x1 x2 x3 x4 x5 u215) else (AL 2 x3 0 u215 fun t216 => if cLong t216 t212 = 0 then (BL_law_651 sc L k28 x1 x2 x3 x4 x5 u215) else (RTL 0 u215))) else (RTL 0 u215))), SC1 sc L (w32 (x5 + 1)) fun t218 => SC1 sc L (w32 (x5 + 2)) fun t220 => CLZ (FL_inks x1 t218 t220 x3 μ) fun t221 u222 => SC1 sc L (w32 (x5 + 1)) fun t224 => SC1 sc L (w32 (x5 + 2)) fun t226 => KD 7 x2 u222 (CLZ (FX7_inks x2 t224 t226 u222) fun t227 u228 => KD 7 x2 u228 (CLZ (FX7_thrown x2 u228) fun t229 u230 => if t229 = t221 then (if ¬ t221 = 0 then (BL_law_719 sc L k28 x1 x2 x3 x4 x5 u230) else (AL 2 x3 0 u230 fun t231 => if cLong t231 t227 = 0 then (BL_law_719 sc L k28 x1 x2 x3 x4 x5 u230) else (RTL 0 u230))) else (RTL 0 u230))), SC1 sc L (w32 (x5 + 1)) fun t233 => SC1 sc L (w32 (x5 + 2)) fun t235 => SC1 sc L (w32 (x5 + 3)) fun t237 => CLZ (FL_why x1 t233 t235 t237 x3 μ) fun t238 u239 => SC1 sc L (w32 (x5 + 1)) fun t241 => SC1 sc L (w32 (x5 + 2)) fun t243 => SC1 sc L (w32 (x5 + 3)) fun t245 => KD 7 x2 u239 (CLZ (FX7_why x2 t241 t243 t245 u239) fun t246 u247 => KD 7 x2 u247 (CLZ (FX7_thrown x2 u247) fun t248 u249 => if t248 = t238 then (if ¬ t238 = 0 then (BL_law_799 sc L k28 x1 x2 x3 x4 x5 u249) else (AL 2 x3 0 u249 fun t250 => if cLong t250 t246 = 0 then (BL_law_799 sc L k28 x1 x2 x3 x4 x5 u249) else (RTL 0 u249))) else (RTL 0 u249))), SC1 sc L (w32 (x5 + 1)) fun t252 => SC1 sc L (w32 (x5 + 2)) fun t254 => CLZ (FL_off x1 t252 t254 x3 μ) fun t255 u256 => SC1 sc L (w32 (x5 + 1)) fun t258 => SC1 sc L (w32 (x5 + 2)) fun t260 => KD 7 x2 u256 (CLZ (FX7_off x2 t258 t260 u256) fun t261 u262 => KD 7 x2 u262 (CLZ (FX7_thrown x2 u262) fun t263 u264 => if t263 = t255 then (if ¬ t255 = 0 then (BL_law_867 sc L k28 x1 x2 x3 x4 x5 u264) else (AL 2 x3 0 u264 fun t265 => if cLong t265 t261 = 0 then (BL_law_867 sc L k28 x1 x2 x3 x4 x5 u264) else (RTL 0 u264))) else (RTL 0 u264))), SC1 sc L (w32 (x5 + 1)) fun t267 => CLZ (FL_covered x1 t267 x4 μ) fun t268 u269 => SC1 sc L (w32 (x5 + 1)) fun t271 => KD 7 x2 u269 (CLZ (FX7_covered x2 t271 u269) fun t272 u273 => KD 7 x2 u273 (CLZ (FX7_thrown x2 u273) fun t274 u275 => if t274 = t268 then (if ¬ t268 = 0 then (BL_law_945 sc L k28 x1 x2 x3 x4 x5 u275) else (AL 3 x4 0 u275 fun t276 => DF t272 fun t277 => if dCmp .l t276 t277 = 0 then (BL_law_945 sc L k28 x1 x2 x3 x4 x5 u275) else (AL 3 x4 0 u275 fun t278 => AL 3 x4 0 u275 fun t279 => if dCmp .l t278 t279 = 0 then (BL_law_943 sc L u275) else (if ¬ fCmp .l t272 t272 = 0 then (BL_law_945 sc L k28 x1 x2 x3 x4 x5 u275) else (BL_law_943 sc L u275))))) else (RTL 0 u275))), SC1 sc L (w32 (x5 + 1)) fun t281 => SC1 sc L (w32 (x5 + 2)) fun t283 => CLZ (FL_moire x1 t281 t283 x4 μ) fun t284 u285 => SC1 sc L (w32 (x5 + 1)) fun t287 => SC1 sc L (w32 (x5 + 2)) fun t289 => KD 7 x2 u285 (CLZ (FX7_moire x2 t287 t289 u285) fun t290 u291 => KD 7 x2 u291 (CLZ (FX7_thrown x2 u291) fun t292 u293 => if t292 = t284 then (if ¬ t284 = 0 then (BL_law_1034 sc L k28 x1 x2 x3 x4 x5 u293) else (AL 3 x4 0 u293 fun t294 => if dCmp .l t294 t290 = 0 then (BL_law_1034 sc L k28 x1 x2 x3 x4 x5 u293) else (AL 3 x4 0 u293 fun t295 => AL 3 x4 0 u293 fun t296 => if dCmp .l t295 t296 = 0 then (BL_law_1032 sc L u293) else (if ¬ dCmp .l t290 t290 = 0 then (BL_law_1034 sc L k28 x1 x2 x3 x4 x5 u293) else (BL_law_1032 sc L u293))))) else (RTL 0 u293))), SC1 sc L (w32 (x5 + 1)) fun t298 => if t298 = 0 then (BL_law_1052 sc L k28 x1 x2 x3 x4 x5 0 x1 μ) else (BL_law_1052 sc L k28 x1 x2 x3 x4 x5 1 x1 μ), SC1 sc L (w32 (x5 + 1)) fun t300 => CLZ (FL_bestTurn x1 t300 x3 μ) fun t301 u302 => SC1 sc L (w32 (x5 + 1)) fun t304 => KD 7 x2 u302 (CLZ (FX7_bestTurn x2 t304 u302) fun t305 u306 => KD 7 x2 u306 (CLZ (FX7_thrown x2 u306) fun t307 u308 => if t307 = t301 then (if ¬ t301 = 0 then (BL_law_1131 sc L k28 x1 x2 x3 x4 x5 u308) else (AL 2 x3 0 u308 fun t309 => if cLong t309 t305 = 0 then (BL_law_1131 sc L k28 x1 x2 x3 x4 x5 u308) else (RTL 0 u308))) else (RTL 0 u308))), KD 6 x1 μ (CLZ (FX6_copies x1 μ) fun t310 u311 => KD 7 x2 u311 (CLZ (FX7_copies x2 u311) fun t312 u313 => if t310 = t312 then (BL_law_1854 sc L k28 x1 x2 x3 x4 x5 u313) else (RTL 0 u313))), SC1 sc L (w32 (x5 + 1)) fun t315 => CLZ (FL_cellsWith x1 t315 x3 μ) fun t316 u317 => SC1 sc L (w32 (x5 + 1)) fun t319 => KD 7 x2 u317 (CLZ (FX7_cellsWith x2 t319 u317) fun t320 u321 => KD 7 x2 u321 (CLZ (FX7_thrown x2 u321) fun t322 u323 => if t322 = t316 then (if ¬ t316 = 0 then (BL_law_1200 sc L k28 x1 x2 x3 x4 x5 u323) else (AL 2 x3 0 u323 fun t324 => if cLong t324 t320 = 0 then (BL_law_1200 sc L k28 x1 x2 x3 x4 x5 u323) else (RTL 0 u323))) else (RTL 0 u323))), SC1 sc L (w32 (x5 + 1)) fun t326 => SC1 sc L (w32 (x5 + 2)) fun t328 => SC1 sc L (w32 (x5 + 3)) fun t330 => SC1 sc L (w32 (x5 + 4)) fun t332 => SC1 sc L (w32 (x5 + 5)) fun t334 => CLZ (FL_paint x1 t326 t328 t330 t332 t334 x3 μ) fun t335 u336 => SC1 sc L (w32 (x5 + 1)) fun t338 => SC1 sc L (w32 (x5 + 2)) fun t340 => SC1 sc L (w32 (x5 + 3)) fun t342 => SC1 sc L (w32 (x5 + 4)) fun t344 => SC1 sc L (w32 (x5 + 5)) fun t346 => KD 7 x2 u336 (CLZ (FX7_paint x2 t338 t340 t342 t344 t346 u336) fun t347 u348 => KD 7 x2 u348 (CLZ (FX7_thrown x2 u348) fun t349 u350 => if t349 = t335 then (if ¬ t335 = 0 then (BL_law_1304 sc L k28 x1 x2 x3 x4 x5 u350) else (AL 2 x3 0 u350 fun t351 => if cLong t351 t347 = 0 then (BL_law_1304 sc L k28 x1 x2 x3 x4 x5 u350) else (RTL 0 u350))) else (RTL 0 u350))), SC1 sc L (w32 (x5 + 1)) fun t353 => SC1 sc L (w32 (x5 + 2)) fun t355 => SC1 sc L (w32 (x5 + 3)) fun t357 => CLZ (FL_turn x1 t353 t355 t357 x3 μ) fun t358 u359 => SC1 sc L (w32 (x5 + 1)) fun t361 => SC1 sc L (w32 (x5 + 2)) fun t363 => SC1 sc L (w32 (x5 + 3)) fun t365 => KD 7 x2 u359 (CLZ (FX7_turn x2 t361 t363 t365 u359) fun t366 u367 => KD 7 x2 u367 (CLZ (FX7_thrown x2 u367) fun t368 u369 => if t368 = t358 then (if ¬ t358 = 0 then (BL_law_1384 sc L k28 x1 x2 x3 x4 x5 u369) else (AL 2 x3 0 u369 fun t370 => if cLong t370 t366 = 0 then (BL_law_1384 sc L k28 x1 x2 x3 x4 x5 u369) else (RTL 0 u369))) else (RTL 0 u369))), SC1 sc L (w32 (x5 + 1)) fun t372 => SC1 sc L (w32 (x5 + 2)) fun t374 => CLZ (FL_shape x1 t372 t374 x3 μ) fun t375 u376 => SC1 sc L (w32 (x5 + 1)) fun t378 => SC1 sc L (w32 (x5 + 2)) fun t380 => KD 7 x2 u376 (CLZ (FX7_shape x2 t378 t380 u376) fun t381 u382 => KD 7 x2 u382 (CLZ (FX7_thrown x2 u382) fun t383 u384 => if t383 = t375 then (if ¬ t375 = 0 then (BL_law_1452 sc L k28 x1 x2 x3 x4 x5 u384) else (AL 2 x3 0 u384 fun t385 => if cLong t385 t381 = 0 then (BL_law_1452 sc L k28 x1 x2 x3 x4 x5 u384) else (RTL 0 u384))) else (RTL 0 u384))), SC1 sc L (w32 (x5 + 1)) fun t387 => SC1 sc L (w32 (x5 + 2)) fun t389 => SC1 sc L (w32 (x5 + 3)) fun t391 => CLZ (FL_shift x1 t387 t389 t391 x3 μ) fun t392 u393 => SC1 sc L (w32 (x5 + 1)) fun t395 => SC1 sc L (w32 (x5 + 2)) fun t397 => SC1 sc L (w32 (x5 + 3)) fun t399 => KD 7 x2 u393 (CLZ (FX7_shift x2 t395 t397 t399 u393) fun t400 u401 => KD 7 x2 u401 (CLZ (FX7_thrown x2 u401) fun t402 u403 => if t402 = t392 then (if ¬ t392 = 0 then (BL_law_1532 sc L k28 x1 x2 x3 x4 x5 u403) else (AL 2 x3 0 u403 fun t404 => if cLong t404 t400 = 0 then (BL_law_1532 sc L k28 x1 x2 x3 x4 x5 u403) else (RTL 0 u403))) else (RTL 0 u403))), SC1 sc L (w32 (x5 + 1)) fun t406 => CLZ (FL_limit x1 t406 x3 μ) fun t407 u408 => SC1 sc L (w32 (x5 + 1)) fun t410 => KD 7 x2 u408 (CLZ (FX7_limit x2 t410 u408) fun t411 u412 => KD 7 x2 u412 (CLZ (FX7_thrown x2 u412) fun t413 u414 => if t413 = t407 then (if ¬ t407 = 0 then (BL_law_1588 sc L k28 x1 x2 x3 x4 x5 u414) else (AL 2 x3 0 u414 fun t415 => if cLong t415 t411 = 0 then (BL_law_1588 sc L k28 x1 x2 x3 x4 x5 u414) else (RTL 0 u414))) else (RTL 0 u414))), SC1 sc L (w32 (x5 + 1)) fun t417 => CLZ (FL_clean x1 t417 x3 μ) fun t418 u419 => SC1 sc L (w32 (x5 + 1)) fun t421 => KD 7 x2 u419 (CLZ (FX7_clean x2 t421 u419) fun t422 u423 => KD 7 x2 u423 (CLZ (FX7_thrown x2 u423) fun t424 u425 => if t424 = t418 then (if ¬ t418 = 0 then (BL_law_1644 sc L k28 x1 x2 x3 x4 x5 u425) else (AL 2 x3 0 u425 fun t426 => if cLong t426 t422 = 0 then (BL_law_1644 sc L k28 x1 x2 x3 x4 x5 u425) else (RTL 0 u425))) else (RTL 0 u425))), SC1 sc L (w32 (x5 + 1)) fun t428 => CLZ (FL_dirty x1 t428 x3 μ) fun t429 u430 => SC1 sc L (w32 (x5 + 1)) fun t432 => KD 7 x2 u430 (CLZ (FX7_dirty x2 t432 u430) fun t433 u434 => KD 7 x2 u434 (CLZ (FX7_thrown x2 u434) fun t435 u436 => if t435 = t429 then (if ¬ t429 = 0 then (BL_law_1700 sc L k28 x1 x2 x3 x4 x5 u436) else (AL 2 x3 0 u436 fun t437 => if cLong t437 t433 = 0 then (BL_law_1700 sc L k28 x1 x2 x3 x4 x5 u436) else (RTL 0 u436))) else (RTL 0 u436))), SC1 sc L (w32 (x5 + 1)) fun t439 => SC1 sc L (w32 (x5 + 2)) fun t441 => CLZ (FL_fill x1 t439 t441 x3 μ) fun t442 u443 => SC1 sc L (w32 (x5 + 1)) fun t445 => SC1 sc L (w32 (x5 + 2)) fun t447 => KD 7 x2 u443 (CLZ (FX7_fill x2 t445 t447 u443) fun t448 u449 => KD 7 x2 u449 (CLZ (FX7_thrown x2 u449) fun t450 u451 => if t450 = t442 then (if ¬ t442 = 0 then (BL_law_1768 sc L k28 x1 x2 x3 x4 x5 u451) else (AL 2 x3 0 u451 fun t452 => if cLong t452 t448 = 0 then (BL_law_1768 sc L k28 x1 x2 x3 x4 x5 u451) else (RTL 0 u451))) else (RTL 0 u451))), SC1 sc L (w32 (x5 + 1)) fun t454 => CLZ (FL_press x1 t454 x3 μ) fun t455 u456 => SC1 sc L (w32 (x5 + 1)) fun t458 => KD 7 x2 u456 (CLZ (FX7_press x2 t458 u456) fun t459 u460 => KD 7 x2 u460 (CLZ (FX7_thrown x2 u460) fun t461 u462 => if t461 = t455 then (if ¬ t455 = 0 then (BL_law_1824 sc L k28 x1 x2 x3 x4 x5 u462) else (AL 2 x3 0 u462 fun t463 => if cLong t463 t459 = 0 then (BL_law_1824 sc L k28 x1 x2 x3 x4 x5 u462) else (RTL 0 u462))) else (RTL 0 u462))), KD 6 x1 μ (CLZ (FX6_undo x1 μ) fun t464 u465 => KD 7 x2 u465 (CLZ (FX7_undo x2 u465) fun t466 u467 => if t464 = t466 then (BL_law_1854 sc L k28 x1 x2 x3 x4 x5 u467) else (RTL 0 u467))), KD 6 x1 μ (CLZ (FX6_checksum x1 μ) fun t468 u469 => KD 7 x2 u469 (CLZ (FX7_checksum x2 u469) fun t470 u471 => if cLong t468 t470 = 0 then (BL_law_1854 sc L k28 x1 x2 x3 x4 x5 u471) else (RTL 0 u471)))] (BL_law_1854 sc L k28 x1 x2 x3 x4 x5 μ))
def LL_law_28 (sc : Int → Int) (L : Int) : Nat → Int → Int → Int → Int → Int → Mem → Rz
  | 0, _, _, _, _, _, _ => none
  | n + 1, x1, x2, x3, x4, x5, μ => BL_law_28 sc L (fun y1 y2 y3 y4 y5 ν => LL_law_28 sc L n y1 y2 y3 y4 y5 ν) x1 x2 x3 x4 x5 μ
def BL_law_0 (sc : Int → Int) (L : Int) (μ : Mem) : Rz := NW 6 9 μ fun t101 u102 => KD 6 t101 u102 (CLZ (FX6_init t101 u102) fun _ u104 => NW 7 24 u104 fun t105 u106 => KD 7 t105 u106 (CLZ (FX7_init t105 u106) fun _ u108 => NA 2 1 u108 fun t109 u110 => NA 3 1 u110 fun t111 u112 => LL_law_28 sc L FU t101 t105 t109 t111 0 u112))
def FL_law (sc : Int → Int) (L : Int) (μ : Mem) : Rz := BL_law_0 sc L μ
